/-! THE CONSTRUCTORS' WALKS. tw_cw: the object k in progress holds e, the cells k+1 .. m-1 are finished, all else is as F says. -/
def tw_cw (G F : Nat → va_E) (k : Nat) (e : va_E) (m : Nat) : Nat → va_E := fun q => if q = k then e else if k < q ∧ q < m then G q else F q
def tw_fin (G F : Nat → va_E) (k m : Nat) : Nat → va_E := fun q => if k ≤ q ∧ q < m then G q else F q
theorem tw_cw_s {G F : Nat → va_E} {k m : Nat} {e : va_E} : tw_cw G F k e m k = e := if_pos rfl
theorem tw_cw_g {G F : Nat → va_E} {k m q : Nat} {e : va_E} (h : k < q) (h1 : q < m) : tw_cw G F k e m q = G q := by
  unfold tw_cw
  rw [if_neg (by omega), if_pos ⟨h, h1⟩]
theorem tw_cw_f {G F : Nat → va_E} {k m q : Nat} {e : va_E} (h : q < k) : tw_cw G F k e m q = F q := by
  unfold tw_cw
  rw [if_neg (by omega), if_neg (by omega)]
theorem tw_cw_0 {G F : Nat → va_E} {k : Nat} {e : va_E} (h : F k = e) : ∀ q, q < k + 1 → F q = tw_cw G F k e (k + 1) q := by
  intro q hq
  unfold tw_cw
  by_cases h1 : q = k
  · subst h1; rw [if_pos rfl, h]
  · rw [if_neg h1, if_neg (by omega)]
theorem tw_cw_mk {G F : Nat → va_E} {k m m' : Nat} {e x : va_E} (hk : k < m) : ∀ q, q < m' → tw_fin G (va_up (tw_cw G F k e m) m x) m m' q = tw_cw G F k e m' q := by
  intro q hq
  unfold tw_fin
  by_cases h1 : m ≤ q
  · rw [if_pos ⟨h1, hq⟩, tw_cw_g (by omega) hq]
  · rw [if_neg (by omega), va_up_ne _ _ (by omega)]
    unfold tw_cw
    by_cases h2 : q = k
    · rw [if_pos h2, if_pos h2]
    · rw [if_neg h2, if_neg h2]
      by_cases h3 : k < q
      · rw [if_pos ⟨h3, by omega⟩, if_pos ⟨h3, by omega⟩]
      · rw [if_neg (by omega), if_neg (by omega)]
theorem tw_cw_arr {G F : Nat → va_E} {k m : Nat} {e a : va_E} (hk : k < m) (ha : a = G m) : ∀ q, q < m + 1 → va_up (tw_cw G F k e m) m a q = tw_cw G F k e (m + 1) q := by
  intro q hq
  by_cases h1 : q = m
  · subst h1; rw [va_up_self, tw_cw_g hk (Nat.lt_succ_self _), ha]
  · rw [va_up_ne _ _ h1]
    unfold tw_cw
    by_cases h2 : q = k
    · rw [if_pos h2, if_pos h2]
    · rw [if_neg h2, if_neg h2]
      by_cases h3 : k < q
      · rw [if_pos ⟨h3, by omega⟩, if_pos ⟨h3, by omega⟩]
      · rw [if_neg (by omega), if_neg (by omega)]
theorem tw_cw_put {G F : Nat → va_E} {k m : Nat} {e e' : va_E} : va_up (tw_cw G F k e m) k e' = tw_cw G F k e' m := by
  funext q
  by_cases h1 : q = k
  · subst h1; rw [va_up_self, tw_cw_s]
  · rw [va_up_ne _ _ h1]
    unfold tw_cw
    rw [if_neg h1, if_neg h1]
theorem tw_cw_end {G F : Nat → va_E} {k m : Nat} {e : va_E} (hk : k < m) (h : e = G k) : ∀ q, q < m → tw_cw G F k e m q = tw_fin G F k m q := by
  intro q hq
  unfold tw_cw tw_fin
  by_cases h1 : q = k
  · subst h1; rw [if_pos rfl, if_pos ⟨Nat.le_refl _, hk⟩, h]
  · rw [if_neg h1]
    by_cases h2 : k < q
    · rw [if_pos ⟨h2, hq⟩, if_pos ⟨by omega, hq⟩]
    · rw [if_neg (by omega), if_neg (by omega)]
theorem tw_cz_0 {z : tw_Z} (h1 : tw_zcells z = 0) (h2 : tw_zslots z = 0) : tw_cz z 0 0 = z := by
  obtain ⟨z1, z2, z3, z4, z5, z6, z7, z8, z9, z10, z11, z12, z13, z14, z15, z16, z17, z18⟩ := z
  cases h1; cases h2; rfl
theorem tw_Rc.z0 {z : tw_Z} {F : Nat → va_E} {mm pc : Nat} {L : List (Nat × Value)} {st : List Value} (h1 : tw_zcells z = 0) (h2 : tw_zslots z = 0) (h : tw_Rc (tw_cz z 0 0) F mm pc L st) : tw_Rc z F mm pc L st := by
  rw [tw_cz_0 h1 h2] at h; exact h
theorem tw_Rc.mm {z : tw_Z} {F : Nat → va_E} {mm mm' pc : Nat} {L : List (Nat × Value)} {st : List Value} (h : mm = mm') (k : tw_Rc z F mm' pc L st) : tw_Rc z F mm pc L st := h ▸ k
theorem tw_Rc.sub {z : tw_Z} {F : Nat → va_E} {mm pc : Nat} {L L' : List (Nat × Value)} {st : List Value} (ks : List Nat) (hl : lv_pick L ks = L') (k : tw_Rc z F mm pc L' st) : tw_Rc z F mm pc L st := fun H locs ls hP hz hS h => k H locs ls hP hz hS (lv_sub h ks hl)
theorem tw_cellq {cA : ClassId} {n : Nat} {f g : Nat → Option Nat} (h : ∀ j, j < n → f j = g j) : vp_cell cA (n, .inr (.inr (.inr (.inr f)))) = vp_cell cA (n, .inr (.inr (.inr (.inr g)))) := by
  show arrV cA n (fun j => va_rf (f j)) = arrV cA n (fun j => va_rf (g j))
  unfold arrV
  have e : (Array.ofFn (n := n) fun j => (fun j => va_rf (f j)) j.val) = Array.ofFn (n := n) fun j => (fun j => va_rf (g j)) j.val := by
    congr 1
    funext j
    show va_rf (f j.val) = va_rf (g j.val)
    rw [h j.val j.isLt]
  rw [e]
/-- worlds that differ in arrays of references behind their ends alone -/
theorem tw_Pcong2 {B mm : Nat} {D : va_G} {F G : Nat → va_E} {H : Heap} (h : va_P D vwCl (tw_wl B F mm) H) (he : ∀ k, k < mm → F k = G k ∨ ∃ cA n f g, F k = .inl (cA, n, .inr (.inr (.inr (.inr f)))) ∧ G k = .inl (cA, n, .inr (.inr (.inr (.inr g)))) ∧ ∀ j, j < n → f j = g j) : va_P D vwCl (tw_wl B G mm) H := by
  intro k q hk
  obtain ⟨h1, rfl⟩ := tw_wl_len hk
  have h2 := h k (B + k, F k) (tw_wl_get h1)
  rcases he k h1 with e | ⟨cA, n, f, g, e1, e2, e3⟩
  · rw [← e]; exact h2
  · rw [e1] at h2
    rw [e2]
    show H[B + k]? = some (vp_cell cA (n, .inr (.inr (.inr (.inr g)))))
    rw [← tw_cellq e3]
    exact h2
theorem tw_Rc.cong2 {z : tw_Z} {F G : Nat → va_E} {mm pc : Nat} {L : List (Nat × Value)} {st : List Value} (h : tw_Rc z G mm pc L st) (he : ∀ k, k < mm → F k = G k ∨ ∃ cA n f g, F k = .inl (cA, n, .inr (.inr (.inr (.inr f)))) ∧ G k = .inl (cA, n, .inr (.inr (.inr (.inr g)))) ∧ ∀ j, j < n → f j = g j) : tw_Rc z F mm pc L st := fun H locs ls hP hz hS hl => h H locs ls (tw_Pcong2 hP he) hz hS hl
section TWK
variable {z : tw_Z} {cc : ByteArray} {own : String} {nL pc mm : Nat} {F G : Nat → va_E} {L L' : List (Nat × Value)} {st st0 : List Value} {c s c' s' k m m' : Nat} {e : va_E}
theorem c_iload {i : Nat} {x : Int32} (X : tw_X z cc own nL) (d : decode cc pc = .ok (.iload i, 2)) (q : Nat) (hq : L[q]? = some (i, .int x)) (kk : tw_Rc z F mm (pc + 2) L (.int x :: st)) : tw_Rc z F mm pc L st := fun H locs ls hP hz hS hl => lv_iload X.1 X.2.1 d (tw_hl hl q hq) (kk H locs ls hP hz hS hl)
theorem c_ifle {x : Int32} {off : Int} {tgt : Nat} (X : tw_X z cc own nL) (d : decode cc pc = .ok (.ifCond .le off, 3)) (ht : (pc : Int) + off = (tgt : Int)) (hx : ¬ x ≤ 0) (kk : tw_Rc z F mm (pc + 3) L st) : tw_Rc z F mm pc L (.int x :: st) := fun H locs ls hP hz hS hl => lv_if_le X.1 X.2.1 d ht (fun q => absurd q hx) (fun _ => kk H locs ls hP hz hS hl)
theorem c_icmpge {x y : Int32} {off : Int} {tgt : Nat} (X : tw_X z cc own nL) (d : decode cc pc = .ok (.if_icmp .ge off, 3)) (ht : (pc : Int) + off = (tgt : Int)) (kt : y ≤ x → tw_Rc z F mm tgt L st) (kf : ¬ y ≤ x → tw_Rc z F mm (pc + 3) L st) : tw_Rc z F mm pc L (.int y :: .int x :: st) := fun H locs ls hP hz hS hl => lv_icmp_ge X.1 X.2.1 d ht (fun q => kt q H locs ls hP hz hS hl) (fun q => kf q H locs ls hP hz hS hl)
theorem c_astore_n {j : Fin 4} {i : Nat} {x : Nat} (X : tw_X z cc own nL) (d : decode cc pc = .ok (.astore_n j, 1)) (hi : (j : Nat) = i) (hn : i < nL) (hL : (i, Value.ref x) :: L.filter (fun q => !(q.1 == i) && !(q.1 + 1 == i && q.2.category == 2)) = L') (kk : tw_Rc z F mm (pc + 1) L' st) : tw_Rc z F mm pc L (.ref x :: st) := fun H locs ls hP hz hS hl => lv_astore_n X.1 X.2.1 d hi hl (tw_nLt X hn) hL (fun ls' hl' => kk H locs ls' hP hz hS hl')
theorem c_istore_n {j : Fin 4} {i : Nat} {x : Int32} (X : tw_X z cc own nL) (d : decode cc pc = .ok (.istore_n j, 1)) (hi : (j : Nat) = i) (hn : i < nL) (hL : (i, Value.int x) :: L.filter (fun q => !(q.1 == i) && !(q.1 + 1 == i && q.2.category == 2)) = L') (kk : tw_Rc z F mm (pc + 1) L' st) : tw_Rc z F mm pc L (.int x :: st) := fun H locs ls hP hz hS hl => lv_istore_n X.1 X.2.1 d hi hl (tw_nLt X hn) hL (fun ls' hl' => kk H locs ls' hP hz hS hl')
theorem c_iinc {i : Nat} {n : Int} {x v : Int32} (X : tw_X z cc own nL) (d : decode cc pc = .ok (.iinc i n, 3)) (q : Nat) (hq : L[q]? = some (i, .int x)) (hv : x + Int32.ofInt n = v) (hn : i < nL) (hL : (i, Value.int v) :: L.filter (fun q => !(q.1 == i) && !(q.1 + 1 == i && q.2.category == 2)) = L') (kk : tw_Rc z F mm (pc + 3) L' st) : tw_Rc z F mm pc L st := fun H locs ls hP hz hS hl => lv_iinc X.1 X.2.1 d hl hq hv (tw_nLt X hn) hL (fun ls' hl' => kk H locs ls' hP hz hS hl')
theorem c_getf {ci f ix N : Nat} {Cn : String} {T : u_T} {fs : List Value} {v : Value} (X : tw_X z cc own nL) (d : decode cc pc = .ok (.getfield ix, 3)) (i : Nat) (hi : lw_tbl[i]? = some (.fieldLink own ix (T f).1 (T f).2.1 (T f).2.2.1)) (hin : ∀ w ∈ u_ws Cn T N, w ∈ tw_AW) (hc : vwCl[ci]? = some (Cn, T, N)) (hf : f < N) (hk : k < mm) (hE0 : F k = .inr (ci, fs)) (hv : fs[f]? = some v) (kk : tw_Rc z F mm (pc + 3) L (v :: st)) : tw_Rc z F mm pc L (.ref (tw_zB z + k) :: st) :=
  fun H locs ls hP hz hS hl => va_get X.1 X.2.1 X.all hin X.ow X.K hP k ((tw_wl_get hk).trans (congrArg (fun e => some (tw_zB z + k, e)) hE0)) hc f hf (X.ws i hi rfl) (fun _ h => h) hv d (kk H locs ls hP hz hS hl)
theorem c_alenq {n t0 : Nat} {v : Int32} {ty : FieldType} {cA : ClassId} {g : Nat → Option Nat} (X : tw_X z cc own nL) (d : decode cc pc = .ok (.arraylength, 1)) (hk : k < mm) (hE0 : F k = .inl (cA, n, .inr (.inr (.inr (.inr g))))) (ht : (tw_tys (tw_zC z))[t0]? = some (cA, ty)) (hv : Int32.ofNat n = v) (kk : tw_Rc z F mm (pc + 1) L (.int v :: st)) : tw_Rc z F mm pc L (.ref (tw_zB z + k) :: st) :=
  fun H locs ls hP hz hS hl => va_alen X.1 X.2.1 X.K hP k t0 ((tw_wl_get hk).trans (congrArg (fun e => some (tw_zB z + k, e)) hE0)) ht hv d (kk H locs ls hP hz hS hl)
/-- putfield of a field that isn't final -/
theorem c_put {ci f ix N : Nat} {Cn : String} {T : u_T} {fs : List Value} {ty : FieldType} {v : Value} (X : tw_X z cc own nL) (hsz : (tw_zs z).heap.size + tw_zcells z = tw_zB z + mm) (d : decode cc pc = .ok (.putfield ix, 3)) (i : Nat) (hi : lw_tbl[i]? = some (.fieldLink own ix (T f).1 (T f).2.1 (T f).2.2.1)) (hin : ∀ w ∈ u_ws Cn T N, w ∈ tw_AW) (ty0 : Nat → FieldType) (hty : ∀ k, k < N → parseFieldDescriptor (T k).2.2.1 = some (ty0 k)) (hnm : ∀ a, a < N → ∀ b, b < N → a ≠ b → (T a).2.1 ≠ (T b).2.1) (hc : vwCl[ci]? = some (Cn, T, N)) (hf : f < N) (hfin : (T f).2.2.2 = false) (hd : parseFieldDescriptor (T f).2.2.1 = some ty) (hn : narrow ty v = v) (hfit : fits ty v = true) (hk : k < mm) (hE0 : F k = .inr (ci, fs)) (hfl : f < fs.length)
    (kk : tw_Rc z (va_up F k (.inr (ci, fs.set f v))) mm (pc + 3) L st) : tw_Rc z F mm pc L (v :: .ref (tw_zB z + k) :: st) := by
  intro H locs ls hP hz hS hl
  refine va_put X.1 X.2.1 X.all hin ty0 hty hnm X.ow X.K hP tw_wl_D hS k ((tw_wl_get hk).trans (congrArg (fun e => some (tw_zB z + k, e)) hE0)) hc f hf (X.ws i hi rfl) (fun _ h => h) hfin hd hn hfit hfl d (fun H1 locs1 hP1 _ hS1 => ?_)
  rw [tw_wl_set] at hP1
  exact tw_size (Nat.lt_of_le_of_lt (Nat.zero_le _) hk) hsz hP1 (fun h => kk H1 locs1 ls hP1 h hS1 hl)
theorem c_putN {ci f ix N : Nat} {Cn host : String} {T : u_T} {fs : List Value} {ty : FieldType} {v : Value} (X : tw_X z cc own nL) (hsz : (tw_zs z).heap.size + tw_zcells z = tw_zB z + mm) (d : decode cc pc = .ok (.putfield ix, 3)) (i : Nat) (hi : lw_tbl[i]? = some (.fieldLinkNest own ix (T f).1 (T f).2.1 (T f).2.2.1 host)) (hin : ∀ w ∈ u_ws Cn T N, w ∈ tw_AW) (ty0 : Nat → FieldType) (hty : ∀ k, k < N → parseFieldDescriptor (T k).2.2.1 = some (ty0 k)) (hnm : ∀ a, a < N → ∀ b, b < N → a ≠ b → (T a).2.1 ≠ (T b).2.1) (hc : vwCl[ci]? = some (Cn, T, N)) (hf : f < N) (hfin : (T f).2.2.2 = false) (hd : parseFieldDescriptor (T f).2.2.1 = some ty) (hn : narrow ty v = v) (hfit : fits ty v = true) (hk : k < mm) (hE0 : F k = .inr (ci, fs)) (hfl : f < fs.length)
    (kk : tw_Rc z (va_up F k (.inr (ci, fs.set f v))) mm (pc + 3) L st) : tw_Rc z F mm pc L (v :: .ref (tw_zB z + k) :: st) := by
  intro H locs ls hP hz hS hl
  refine va_putN X.1 X.2.1 X.all hin ty0 hty hnm X.ow X.K hP tw_wl_D hS k ((tw_wl_get hk).trans (congrArg (fun e => some (tw_zB z + k, e)) hE0)) hc f hf (X.ws i hi rfl) (fun _ h => h) hfin hd hn hfit hfl d (fun H1 locs1 hP1 _ hS1 => ?_)
  rw [tw_wl_set] at hP1
  exact tw_size (Nat.lt_of_le_of_lt (Nat.zero_le _) hk) hsz hP1 (fun h => kk H1 locs1 ls hP1 h hS1 hl)
/-- the call of a nest mate's constructor -/
theorem c_initN {ix mL n b : Nat} {y : MethodName} {host : String} {cy : ByteArray} {rm : Room} {As : List Value} {F' : Nat → va_E} {mm' : Nat} (X : tw_X z cc own nL) (hAK : tw_AK (tw_zs z)) (hsz : (tw_zs z).heap.size + tw_zcells z = tw_zB z + mm) (d : decode cc pc = .ok (.invokespecial ix, 3)) (hM : tw_MetC (tw_zl z) (tw_zB z) (tw_zD z) (tw_zC z) (tw_zS z) y cy mL rm (.ref b :: As) F mm F' mm') (hy : tw_My y cy mL none n) (hv : Cond.instanceMethod y ∈ lw_tbl) (hnm : y.name = "<init>") (i : Nat) (hi : lw_tbl[i]? = some (.methodLinkNest own ix y host)) (hn : As.length = n) (hR : tw_Rm (tw_zR z) rm mL rm.cells rm.slots) (hcs : tw_zcells z + rm.cells ≤ (tw_zR z).cells ∧ tw_zslots z + rm.slots ≤ (tw_zR z).slots) (hst : (st.map fun v => v.category).sum ≤ 8) (hs0 : st0 = As.reverse ++ .ref b :: st) (hm : 0 < mm') (hmm : mm' = mm + rm.cells)
    (kk : tw_Rc (tw_cz z (tw_zcells z + rm.cells) (tw_zslots z + rm.slots)) F' mm' (pc + 3) L st) : tw_Rc z F mm pc L st0 := by
  subst hs0
  intro H locs ls hP hz hS hl T hT XT
  have hp : PreS (tw_zs z) H (tw_CPre (tw_zB z) (tw_zD z) (tw_zC z) (tw_zS z) (.ref b :: As) F mm) (.ref b :: As) := ⟨tw_CPre_blind, fun U hU hW => ⟨rfl, ⟨by rw [hU]; exact hP, by rw [hU]; exact hz⟩, X.2.2.2.2.2.1.call hS hU hW, hAK.warm hW⟩⟩
  obtain ⟨v, st₀, t, T', Lc, h0, X', hL, e1, e2, ⟨⟨hv1, hp1⟩, hz1, hk⟩, st1⟩ := va_runIN (As := As) (rest := st) (tw_fix X) hM ⟨tw_CN X hy i hi hR, hnm, tw_wd X hv rfl⟩ hp (g := F0 (tw_zm z) pc ls (As.reverse ++ .ref b :: st)) rfl hn (hl.1.trans X.2.2.2.2.2.2) rfl (lv_room hst) d hcs T hT XT
  cases hv1
  rw [h0] at hz1 hk
  have hS' : tw_SS (tw_cz z (tw_zcells z + rm.cells) (tw_zslots z + rm.slots)) T'.heap (locs ++ Lc) := ⟨Nat.le_trans hS.1 (by rw [e1]; exact hz1), fun q h1 h2 => by rw [e1, hk q (Nat.lt_of_lt_of_le h1 hS.1) h2]; exact hS.2.1 q h1 h2, fun q hq => by
      rcases List.mem_append.mp hq with h | h
      · exact hS.2.2 q h
      · exact hL q h⟩
  have hP' : va_P (tw_zD z) vwCl (tw_wl (tw_zB z) F' mm') T'.heap := by rw [e1]; exact hp1
  obtain ⟨t2, a1, b1⟩ := tw_size (z := tw_cz z (tw_zcells z + rm.cells) (tw_zslots z + rm.slots)) (locs := locs ++ Lc) hm (show (tw_zs z).heap.size + (tw_zcells z + rm.cells) = tw_zB z + mm' by omega) hP' (fun h => kk T'.heap (locs ++ Lc) ls hP' h hS' hl) T' rfl X'
  exact ⟨t2, st1 t2 a1, b1⟩
/-! the same with the counters written out -/
theorem k_new {ci ix N i1 i2 : Nat} {Cn : String} {T : u_T} {fs : List Value} (X : tw_X z cc own nL) (d : decode cc pc = .ok (.new ix, 3)) (i : Nat) (hi : lw_tbl[i]? = some (.classLink own ix Cn)) (hinst : lw_tbl[i1]? = some (Cond.instantiable Cn N)) (hini : lw_tbl[i2]? = some (Cond.initialized Cn)) (hin : ∀ w ∈ u_ws Cn T N, w ∈ tw_AW) (ty : Nat → FieldType) (hty : ∀ k, k < N → parseFieldDescriptor (T k).2.2.1 = some (ty k)) (hcl : vwCl[ci]? = some (Cn, T, N)) (hfs : ∀ j, j < N → defaultValue (ty j) = vp_V fs j) (hR : c + 1 ≤ (tw_zR z).cells) (hs : s + N ≤ (tw_zR z).slots) (ec : c + 1 = c') (es : s + N = s')
    (kk : tw_Rc (tw_cz z c' s') (va_up F mm (.inr (ci, fs))) (mm + 1) (pc + 3) L (.ref (tw_zB z + mm) :: st)) : tw_Rc (tw_cz z c s) F mm pc L st := by
  subst ec; subst es
  exact c_new (z := tw_cz z c s) X d i hi (List.mem_of_getElem? hinst) (List.mem_of_getElem? hini) hin ty hty hcl hfs hR hs kk
theorem k_newi {N : Nat} {n : Int32} (X : tw_X z cc own nL) (hAK : tw_AK (tw_zs z)) (d : decode cc pc = .ok (.newarray .int, 2)) (hn : ¬ n < 0) (hN : n.toNatClampNeg = N) (hb : N * 4 ≤ 536870912) (hc : c + 1 ≤ (tw_zR z).cells) (hs : s + N ≤ (tw_zR z).slots) (ec : c + 1 = c') (es : s + N = s') (hk : k < m) (hG : G m = .inl (tw_zC z 0, N, .inl (fun _ => 0)))
    (kk : tw_Rc (tw_cz z c' s') (tw_cw G F k e (m + 1)) (m + 1) (pc + 2) L (.ref (tw_zB z + m) :: st)) : tw_Rc (tw_cz z c s) (tw_cw G F k e m) m pc L (.int n :: st) := by
  subst ec; subst es
  have hw : (Cond.arrayClass .int).before (tw_zargs z) (tw_zs z) = true := hAK.1.1
  exact c_newi (z := tw_cz z c s) X d hn hN hb hc hs hw (tw_Rc.cong kk (tw_cw_arr hk hG.symm))
theorem k_init {ix mL n i1 : Nat} {y : MethodName} {cy : ByteArray} {rm : Room} {As : List Value} {x : va_E} {m0 : Nat} (X : tw_X z cc own nL) (hAK : tw_AK (tw_zs z)) (hz : (tw_zs z).heap.size = tw_zB z + m0) (hsz : m0 + c = m + 1) (d : decode cc pc = .ok (.invokespecial ix, 3)) (hM : tw_MetC (tw_zl z) (tw_zB z) (tw_zD z) (tw_zC z) (tw_zS z) y cy mL rm (.ref (tw_zB z + m) :: As) (va_up (tw_cw G F k e m) m x) (m + 1) (tw_fin G (va_up (tw_cw G F k e m) m x) m m') m') (hy : tw_My y cy mL none n) (hv : lw_tbl[i1]? = some (Cond.instanceMethod y)) (hnm : y.name = "<init>") (i : Nat) (hi : lw_tbl[i]? = some (.methodLink own ix y)) (hn : As.length = n) (hf : rm.frames + 1 ≤ (tw_zR z).frames) (hl : 8 + (mL + 11) + rm.locals ≤ (tw_zR z).locals) (hc : c + rm.cells ≤ (tw_zR z).cells) (hs : s + rm.slots ≤ (tw_zR z).slots) (ec : c + rm.cells = c') (es : s + rm.slots = s') (hst : (st.map fun v => v.category).sum ≤ 8) (hs0 : st0 = As.reverse ++ .ref (tw_zB z + m) :: st) (hk : k < m) (hm' : m + 1 + rm.cells = m')
    (kk : tw_Rc (tw_cz z c' s') (tw_cw G F k e m') m' (pc + 3) L st) : tw_Rc (tw_cz z c s) (va_up (tw_cw G F k e m) m x) (m + 1) pc L st0 := by
  subst ec; subst es
  have h1 : (tw_zs z).heap.size + c = tw_zB z + (m + 1) := by omega
  exact c_init (z := tw_cz z c s) X hAK h1 d hM hy (List.mem_of_getElem? hv) hnm i hi hn ⟨rfl, rfl, hf, hl⟩ ⟨hc, hs⟩ hst hs0 (by omega) hm'.symm (tw_Rc.cong kk (tw_cw_mk hk))
theorem k_initN {ix mL n i1 : Nat} {y : MethodName} {host : String} {cy : ByteArray} {rm : Room} {As : List Value} {x : va_E} {m0 : Nat} (X : tw_X z cc own nL) (hAK : tw_AK (tw_zs z)) (hz : (tw_zs z).heap.size = tw_zB z + m0) (hsz : m0 + c = m + 1) (d : decode cc pc = .ok (.invokespecial ix, 3)) (hM : tw_MetC (tw_zl z) (tw_zB z) (tw_zD z) (tw_zC z) (tw_zS z) y cy mL rm (.ref (tw_zB z + m) :: As) (va_up (tw_cw G F k e m) m x) (m + 1) (tw_fin G (va_up (tw_cw G F k e m) m x) m m') m') (hy : tw_My y cy mL none n) (hv : lw_tbl[i1]? = some (Cond.instanceMethod y)) (hnm : y.name = "<init>") (i : Nat) (hi : lw_tbl[i]? = some (.methodLinkNest own ix y host)) (hn : As.length = n) (hf : rm.frames + 1 ≤ (tw_zR z).frames) (hl : 8 + (mL + 11) + rm.locals ≤ (tw_zR z).locals) (hc : c + rm.cells ≤ (tw_zR z).cells) (hs : s + rm.slots ≤ (tw_zR z).slots) (ec : c + rm.cells = c') (es : s + rm.slots = s') (hst : (st.map fun v => v.category).sum ≤ 8) (hs0 : st0 = As.reverse ++ .ref (tw_zB z + m) :: st) (hk : k < m) (hm' : m + 1 + rm.cells = m')
    (kk : tw_Rc (tw_cz z c' s') (tw_cw G F k e m') m' (pc + 3) L st) : tw_Rc (tw_cz z c s) (va_up (tw_cw G F k e m) m x) (m + 1) pc L st0 := by
  subst ec; subst es
  have h1 : (tw_zs z).heap.size + c = tw_zB z + (m + 1) := by omega
  exact c_initN (z := tw_cz z c s) X hAK h1 d hM hy (List.mem_of_getElem? hv) hnm i hi hn ⟨rfl, rfl, hf, hl⟩ ⟨hc, hs⟩ hst hs0 (by omega) hm'.symm (tw_Rc.cong kk (tw_cw_mk hk))
theorem k_putF {ci f ix N : Nat} {Cn : String} {T : u_T} {fs fs' : List Value} {ty : FieldType} {v : Value} {m0 : Nat} (X : tw_X z cc own nL) (hmeth : (tw_zmeth z).name = "<init>") (hz : (tw_zs z).heap.size = tw_zB z + m0) (hsz : m0 + c = m) (d : decode cc pc = .ok (.putfield ix, 3)) (i : Nat) (hi : lw_tbl[i]? = some (.fieldLink own ix (T f).1 (T f).2.1 (T f).2.2.1)) (hin : ∀ w ∈ u_ws Cn T N, w ∈ tw_AW) (ty0 : Nat → FieldType) (hty : ∀ k, k < N → parseFieldDescriptor (T k).2.2.1 = some (ty0 k)) (hnm : ∀ a, a < N → ∀ b, b < N → a ≠ b → (T a).2.1 ≠ (T b).2.1) (hc : vwCl[ci]? = some (Cn, T, N)) (hf : f < N) (hfin : (T f).2.2.2 = true) (hdecl : (T f).1 = own) (hd : parseFieldDescriptor (T f).2.2.1 = some ty) (hn : narrow ty v = v) (hfit : fits ty v = true) (hk : k < m) (hfl : f < fs.length) (hset : fs.set f v = fs')
    (kk : tw_Rc (tw_cz z c s) (tw_cw G F k (.inr (ci, fs')) m) m (pc + 3) L st) : tw_Rc (tw_cz z c s) (tw_cw G F k (.inr (ci, fs)) m) m pc L (v :: .ref (tw_zB z + k) :: st) := by
  subst hset
  have h1 : (tw_zs z).heap.size + c = tw_zB z + m := by omega
  rw [← tw_cw_put (e := .inr (ci, fs))] at kk
  exact c_putF (z := tw_cz z c s) X hmeth h1 d i hi hin ty0 hty hnm hc hf hfin hdecl hd hn hfit hk tw_cw_s hfl kk
theorem k_put {ci f ix N : Nat} {Cn : String} {T : u_T} {fs fs' : List Value} {ty : FieldType} {v : Value} {m0 : Nat} (X : tw_X z cc own nL) (hz : (tw_zs z).heap.size = tw_zB z + m0) (hsz : m0 + c = m) (d : decode cc pc = .ok (.putfield ix, 3)) (i : Nat) (hi : lw_tbl[i]? = some (.fieldLink own ix (T f).1 (T f).2.1 (T f).2.2.1)) (hin : ∀ w ∈ u_ws Cn T N, w ∈ tw_AW) (ty0 : Nat → FieldType) (hty : ∀ k, k < N → parseFieldDescriptor (T k).2.2.1 = some (ty0 k)) (hnm : ∀ a, a < N → ∀ b, b < N → a ≠ b → (T a).2.1 ≠ (T b).2.1) (hc : vwCl[ci]? = some (Cn, T, N)) (hf : f < N) (hfin : (T f).2.2.2 = false) (hd : parseFieldDescriptor (T f).2.2.1 = some ty) (hn : narrow ty v = v) (hfit : fits ty v = true) (hk : k < m) (hfl : f < fs.length) (hset : fs.set f v = fs')
    (kk : tw_Rc (tw_cz z c s) (tw_cw G F k (.inr (ci, fs')) m) m (pc + 3) L st) : tw_Rc (tw_cz z c s) (tw_cw G F k (.inr (ci, fs)) m) m pc L (v :: .ref (tw_zB z + k) :: st) := by
  subst hset
  have h1 : (tw_zs z).heap.size + c = tw_zB z + m := by omega
  rw [← tw_cw_put (e := .inr (ci, fs))] at kk
  exact c_put (z := tw_cz z c s) X h1 d i hi hin ty0 hty hnm hc hf hfin hd hn hfit hk tw_cw_s hfl kk
theorem k_ret {B : Nat} {F' : Nat → va_E} {Rc Rs : Nat} (d : decode cc pc = .ok (.return_, 1)) (hQ : ∀ (H : Heap) (locs : List Loc) (pc : Nat) (ls : Array Slot), decode cc pc = .ok (.return_, 1) → va_P (tw_zD z) vwCl (tw_wl (tw_zB z) F' mm) H → tw_SS z H locs → tw_W (tw_cz z Rc Rs) H locs (F0 (tw_zm z) pc ls [])) (ec : c = Rc) (es : s = Rs) (hF : ∀ q, q < mm → F q = F' q) : tw_Rc (tw_cz z c s) F mm pc L [] := by
  subst ec; subst es
  exact fun H locs ls hP hz hS hl => hQ H locs pc ls d (tw_Pcong hP hF) hS
end TWK
theorem tw_u88 : lw_tbl[88]? = some ((Jvm.Cond.initialized "TreasureWalk")) := by decide +kernel
theorem tw_u89 : lw_tbl[89]? = some ((Jvm.Cond.initialized "TreasureWalk$Data")) := by decide +kernel
theorem tw_u90 : lw_tbl[90]? = some ((Jvm.Cond.initialized "TreasureWalk$Cells")) := by decide +kernel
theorem tw_u91 : lw_tbl[91]? = some ((Jvm.Cond.initialized "TreasureWalk$Row")) := by decide +kernel
theorem tw_u92 : lw_tbl[92]? = some ((Jvm.Cond.initialized "TreasureWalk$Clues")) := by decide +kernel
theorem tw_u94 : lw_tbl[94]? = some ((Jvm.Cond.initialized "TreasureWalk$Trails")) := by decide +kernel
theorem tw_u95 : lw_tbl[95]? = some ((Jvm.Cond.initialized "TreasureWalk$Layers")) := by decide +kernel
theorem tw_u96 : lw_tbl[96]? = some ((Jvm.Cond.initialized "TreasureWalk$Survey")) := by decide +kernel
theorem tw_u97 : lw_tbl[97]? = some ((Jvm.Cond.initialized "TreasureWalk$Flood")) := by decide +kernel
theorem tw_u98 : lw_tbl[98]? = some ((Jvm.Cond.initialized "TreasureWalk$History")) := by decide +kernel
theorem tw_u99 : lw_tbl[99]? = some ((Jvm.Cond.initialized "TreasureWalk$Reader")) := by decide +kernel
theorem tw_u100 : lw_tbl[100]? = some ((Jvm.Cond.initialized "TreasureWalk$Tours")) := by decide +kernel
theorem tw_u101 : lw_tbl[101]? = some ((Jvm.Cond.initialized "TreasureWalkModel")) := by decide +kernel
theorem tw_u119 : lw_tbl[119]? = some ((Jvm.Cond.code ({ cls := "TreasureWalk", name := "<init>", desc := "()V" } : Jvm.MethodName) prog_1_method_1_code (4 : Nat) (Option.none : Option Jvm.ClassFile.FieldType))) := by decide +kernel
theorem tw_u121 : lw_tbl[121]? = some ((Jvm.Cond.instanceMethod ({ cls := "java/lang/Object", name := "<init>", desc := "()V" } : Jvm.MethodName))) := by decide +kernel
theorem tw_u122 : lw_tbl[122]? = some ((Jvm.Cond.code ({ cls := "java/lang/Object", name := "<init>", desc := "()V" } : Jvm.MethodName) object_method_1_code (1 : Nat) (Option.none : Option Jvm.ClassFile.FieldType))) := by decide +kernel
theorem tw_u124 : lw_tbl[124]? = some ((Jvm.Cond.instantiable "TreasureWalk$Data" (14 : Nat))) := by decide +kernel
theorem tw_u126 : lw_tbl[126]? = some ((Jvm.Cond.instanceMethod ({ cls := "TreasureWalk$Data", name := "<init>", desc := "()V" } : Jvm.MethodName))) := by decide +kernel
theorem tw_u127 : lw_tbl[127]? = some ((Jvm.Cond.code ({ cls := "TreasureWalk$Data", name := "<init>", desc := "()V" } : Jvm.MethodName) prog_4_method_1_code (1 : Nat) (Option.none : Option Jvm.ClassFile.FieldType))) := by decide +kernel
theorem tw_u128 : lw_tbl[128]? = some ((Jvm.Cond.methodLink "TreasureWalk$Data" (3 : Nat) ({ cls := "java/lang/Object", name := "<init>", desc := "()V" } : Jvm.MethodName))) := by decide +kernel
theorem tw_u129 : lw_tbl[129]? = some ((Jvm.Cond.classLink "TreasureWalk$Data" (9 : Nat) "TreasureWalk$Cells")) := by decide +kernel
theorem tw_u130 : lw_tbl[130]? = some ((Jvm.Cond.instantiable "TreasureWalk$Cells" (1 : Nat))) := by decide +kernel
theorem tw_u131 : lw_tbl[131]? = some ((Jvm.Cond.methodLinkNest "TreasureWalk$Data" (11 : Nat) ({ cls := "TreasureWalk$Cells", name := "<init>", desc := "()V" } : Jvm.MethodName) "TreasureWalk")) := by decide +kernel
theorem tw_u132 : lw_tbl[132]? = some ((Jvm.Cond.instanceMethod ({ cls := "TreasureWalk$Cells", name := "<init>", desc := "()V" } : Jvm.MethodName))) := by decide +kernel
theorem tw_u133 : lw_tbl[133]? = some ((Jvm.Cond.code ({ cls := "TreasureWalk$Cells", name := "<init>", desc := "()V" } : Jvm.MethodName) prog_2_method_1_code (1 : Nat) (Option.none : Option Jvm.ClassFile.FieldType))) := by decide +kernel
theorem tw_u134 : lw_tbl[134]? = some ((Jvm.Cond.methodLink "TreasureWalk$Cells" (3 : Nat) ({ cls := "java/lang/Object", name := "<init>", desc := "()V" } : Jvm.MethodName))) := by decide +kernel
theorem tw_u135 : lw_tbl[135]? = some ((Jvm.Cond.fieldLink "TreasureWalk$Cells" (9 : Nat) "TreasureWalk$Cells" "rows" "[I")) := by decide +kernel
theorem tw_u140 : lw_tbl[140]? = some ((Jvm.Cond.classLink "TreasureWalk$Data" (21 : Nat) "TreasureWalk$Row")) := by decide +kernel
theorem tw_u141 : lw_tbl[141]? = some ((Jvm.Cond.instantiable "TreasureWalk$Row" (1 : Nat))) := by decide +kernel
theorem tw_u142 : lw_tbl[142]? = some ((Jvm.Cond.methodLink "TreasureWalk$Data" (23 : Nat) ({ cls := "TreasureWalk$Row", name := "<init>", desc := "(I)V" } : Jvm.MethodName))) := by decide +kernel
theorem tw_u143 : lw_tbl[143]? = some ((Jvm.Cond.instanceMethod ({ cls := "TreasureWalk$Row", name := "<init>", desc := "(I)V" } : Jvm.MethodName))) := by decide +kernel
theorem tw_u144 : lw_tbl[144]? = some ((Jvm.Cond.code ({ cls := "TreasureWalk$Row", name := "<init>", desc := "(I)V" } : Jvm.MethodName) prog_9_method_1_code (2 : Nat) (Option.none : Option Jvm.ClassFile.FieldType))) := by decide +kernel
theorem tw_u145 : lw_tbl[145]? = some ((Jvm.Cond.methodLink "TreasureWalk$Row" (1 : Nat) ({ cls := "java/lang/Object", name := "<init>", desc := "()V" } : Jvm.MethodName))) := by decide +kernel
theorem tw_u146 : lw_tbl[146]? = some ((Jvm.Cond.fieldLink "TreasureWalk$Row" (7 : Nat) "TreasureWalk$Row" "numbers" "[I")) := by decide +kernel
theorem tw_u150 : lw_tbl[150]? = some ((Jvm.Cond.classLink "TreasureWalk$Data" (39 : Nat) "TreasureWalk$Clues")) := by decide +kernel
theorem tw_u151 : lw_tbl[151]? = some ((Jvm.Cond.instantiable "TreasureWalk$Clues" (10 : Nat))) := by decide +kernel
theorem tw_u152 : lw_tbl[152]? = some ((Jvm.Cond.methodLinkNest "TreasureWalk$Data" (41 : Nat) ({ cls := "TreasureWalk$Clues", name := "<init>", desc := "()V" } : Jvm.MethodName) "TreasureWalk")) := by decide +kernel
theorem tw_u153 : lw_tbl[153]? = some ((Jvm.Cond.instanceMethod ({ cls := "TreasureWalk$Clues", name := "<init>", desc := "()V" } : Jvm.MethodName))) := by decide +kernel
theorem tw_u154 : lw_tbl[154]? = some ((Jvm.Cond.code ({ cls := "TreasureWalk$Clues", name := "<init>", desc := "()V" } : Jvm.MethodName) prog_3_method_1_code (1 : Nat) (Option.none : Option Jvm.ClassFile.FieldType))) := by decide +kernel
theorem tw_u155 : lw_tbl[155]? = some ((Jvm.Cond.methodLink "TreasureWalk$Clues" (3 : Nat) ({ cls := "java/lang/Object", name := "<init>", desc := "()V" } : Jvm.MethodName))) := by decide +kernel
theorem tw_u156 : lw_tbl[156]? = some ((Jvm.Cond.classLink "TreasureWalk$Clues" (9 : Nat) "TreasureWalk$Row")) := by decide +kernel
theorem tw_u157 : lw_tbl[157]? = some ((Jvm.Cond.methodLink "TreasureWalk$Clues" (11 : Nat) ({ cls := "TreasureWalk$Row", name := "<init>", desc := "(I)V" } : Jvm.MethodName))) := by decide +kernel
theorem tw_u163 : lw_tbl[163]? = some ((Jvm.Cond.fieldLink "TreasureWalk$Clues" (14 : Nat) "TreasureWalk$Clues" "used" "LTreasureWalk$Row;")) := by decide +kernel
theorem tw_u166 : lw_tbl[166]? = some ((Jvm.Cond.fieldLink "TreasureWalk$Clues" (20 : Nat) "TreasureWalk$Clues" "startCounts" "LTreasureWalk$Row;")) := by decide +kernel
theorem tw_u168 : lw_tbl[168]? = some ((Jvm.Cond.fieldLink "TreasureWalk$Clues" (23 : Nat) "TreasureWalk$Clues" "starts" "LTreasureWalk$Row;")) := by decide +kernel
theorem tw_u169 : lw_tbl[169]? = some ((Jvm.Cond.fieldLink "TreasureWalk$Clues" (26 : Nat) "TreasureWalk$Clues" "legCounts" "LTreasureWalk$Row;")) := by decide +kernel
theorem tw_u173 : lw_tbl[173]? = some ((Jvm.Cond.fieldLink "TreasureWalk$Clues" (29 : Nat) "TreasureWalk$Clues" "kinds" "LTreasureWalk$Row;")) := by decide +kernel
theorem tw_u176 : lw_tbl[176]? = some ((Jvm.Cond.fieldLink "TreasureWalk$Clues" (32 : Nat) "TreasureWalk$Clues" "bearings" "LTreasureWalk$Row;")) := by decide +kernel
theorem tw_u179 : lw_tbl[179]? = some ((Jvm.Cond.fieldLink "TreasureWalk$Clues" (35 : Nat) "TreasureWalk$Clues" "fewestPaces" "LTreasureWalk$Row;")) := by decide +kernel
theorem tw_u182 : lw_tbl[182]? = some ((Jvm.Cond.fieldLink "TreasureWalk$Clues" (38 : Nat) "TreasureWalk$Clues" "mostPaces" "LTreasureWalk$Row;")) := by decide +kernel
theorem tw_u185 : lw_tbl[185]? = some ((Jvm.Cond.fieldLink "TreasureWalk$Clues" (41 : Nat) "TreasureWalk$Clues" "goals" "LTreasureWalk$Row;")) := by decide +kernel
theorem tw_u215 : lw_tbl[215]? = some ((Jvm.Cond.fieldLink "TreasureWalk$Data" (12 : Nat) "TreasureWalk$Data" "land" "LTreasureWalk$Cells;")) := by decide +kernel
theorem tw_u220 : lw_tbl[220]? = some ((Jvm.Cond.fieldLink "TreasureWalk$Data" (18 : Nat) "TreasureWalk$Data" "dug" "LTreasureWalk$Cells;")) := by decide +kernel
theorem tw_u223 : lw_tbl[223]? = some ((Jvm.Cond.fieldLink "TreasureWalk$Data" (26 : Nat) "TreasureWalk$Data" "marks" "LTreasureWalk$Row;")) := by decide +kernel
theorem tw_u230 : lw_tbl[230]? = some ((Jvm.Cond.fieldLink "TreasureWalk$Data" (30 : Nat) "TreasureWalk$Data" "bendFirsts" "LTreasureWalk$Row;")) := by decide +kernel
theorem tw_u232 : lw_tbl[232]? = some ((Jvm.Cond.fieldLink "TreasureWalk$Data" (33 : Nat) "TreasureWalk$Data" "bendLasts" "LTreasureWalk$Row;")) := by decide +kernel
theorem tw_u234 : lw_tbl[234]? = some ((Jvm.Cond.fieldLink "TreasureWalk$Data" (36 : Nat) "TreasureWalk$Data" "bendTurns" "LTreasureWalk$Row;")) := by decide +kernel
theorem tw_u237 : lw_tbl[237]? = some ((Jvm.Cond.fieldLink "TreasureWalk$Data" (42 : Nat) "TreasureWalk$Data" "clues" "LTreasureWalk$Clues;")) := by decide +kernel
theorem tw_u315 : lw_tbl[315]? = some ((Jvm.Cond.code ({ cls := "TreasureWalk$Trails", name := "<init>", desc := "(LTreasureWalk$Data;)V" } : Jvm.MethodName) prog_12_method_1_code (2 : Nat) (Option.none : Option Jvm.ClassFile.FieldType))) := by decide +kernel
theorem tw_u316 : lw_tbl[316]? = some ((Jvm.Cond.methodLink "TreasureWalk$Trails" (3 : Nat) ({ cls := "java/lang/Object", name := "<init>", desc := "()V" } : Jvm.MethodName))) := by decide +kernel
theorem tw_u317 : lw_tbl[317]? = some ((Jvm.Cond.classLink "TreasureWalk$Trails" (9 : Nat) "TreasureWalk$Row")) := by decide +kernel
theorem tw_u318 : lw_tbl[318]? = some ((Jvm.Cond.methodLink "TreasureWalk$Trails" (11 : Nat) ({ cls := "TreasureWalk$Row", name := "<init>", desc := "(I)V" } : Jvm.MethodName))) := by decide +kernel
theorem tw_u319 : lw_tbl[319]? = some ((Jvm.Cond.classLink "TreasureWalk$Trails" (20 : Nat) "TreasureWalk$Layers")) := by decide +kernel
theorem tw_u320 : lw_tbl[320]? = some ((Jvm.Cond.instantiable "TreasureWalk$Layers" (2 : Nat))) := by decide +kernel
theorem tw_u321 : lw_tbl[321]? = some ((Jvm.Cond.methodLink "TreasureWalk$Trails" (22 : Nat) ({ cls := "TreasureWalk$Layers", name := "<init>", desc := "(I)V" } : Jvm.MethodName))) := by decide +kernel
theorem tw_u322 : lw_tbl[322]? = some ((Jvm.Cond.instanceMethod ({ cls := "TreasureWalk$Layers", name := "<init>", desc := "(I)V" } : Jvm.MethodName))) := by decide +kernel
theorem tw_u323 : lw_tbl[323]? = some ((Jvm.Cond.code ({ cls := "TreasureWalk$Layers", name := "<init>", desc := "(I)V" } : Jvm.MethodName) prog_7_method_1_code (3 : Nat) (Option.none : Option Jvm.ClassFile.FieldType))) := by decide +kernel
theorem tw_u324 : lw_tbl[324]? = some ((Jvm.Cond.methodLink "TreasureWalk$Layers" (1 : Nat) ({ cls := "java/lang/Object", name := "<init>", desc := "()V" } : Jvm.MethodName))) := by decide +kernel
theorem tw_u325 : lw_tbl[325]? = some ((Jvm.Cond.classLink "TreasureWalk$Layers" (7 : Nat) "TreasureWalk$Cells")) := by decide +kernel
theorem tw_u326 : lw_tbl[326]? = some ((Jvm.Cond.methodLinkNest "TreasureWalk$Layers" (9 : Nat) ({ cls := "TreasureWalk$Cells", name := "<init>", desc := "()V" } : Jvm.MethodName) "TreasureWalk")) := by decide +kernel
theorem tw_u328 : lw_tbl[328]? = some ((Jvm.Cond.fieldLink "TreasureWalk$Layers" (16 : Nat) "TreasureWalk$Layers" "sets" "[LTreasureWalk$Cells;")) := by decide +kernel
theorem tw_u329 : lw_tbl[329]? = some ((Jvm.Cond.fieldLink "TreasureWalk$Layers" (10 : Nat) "TreasureWalk$Layers" "outside" "LTreasureWalk$Cells;")) := by decide +kernel
theorem tw_u335 : lw_tbl[335]? = some ((Jvm.Cond.fieldLink "TreasureWalk$Trails" (30 : Nat) "TreasureWalk$Trails" "data" "LTreasureWalk$Data;")) := by decide +kernel
theorem tw_u336 : lw_tbl[336]? = some ((Jvm.Cond.fieldLink "TreasureWalk$Trails" (14 : Nat) "TreasureWalk$Trails" "twists" "LTreasureWalk$Row;")) := by decide +kernel
theorem tw_u337 : lw_tbl[337]? = some ((Jvm.Cond.fieldLink "TreasureWalk$Trails" (23 : Nat) "TreasureWalk$Trails" "layers" "LTreasureWalk$Layers;")) := by decide +kernel
theorem tw_u338 : lw_tbl[338]? = some ((Jvm.Cond.fieldLink "TreasureWalk$Trails" (27 : Nat) "TreasureWalk$Trails" "ways" "LTreasureWalk$Layers;")) := by decide +kernel
theorem tw_u352 : lw_tbl[352]? = some ((Jvm.Cond.code ({ cls := "TreasureWalk$Survey", name := "<init>", desc := "(LTreasureWalk$Data;LTreasureWalk$Trails;)V" } : Jvm.MethodName) prog_10_method_1_code (3 : Nat) (Option.none : Option Jvm.ClassFile.FieldType))) := by decide +kernel
theorem tw_u353 : lw_tbl[353]? = some ((Jvm.Cond.methodLink "TreasureWalk$Survey" (3 : Nat) ({ cls := "java/lang/Object", name := "<init>", desc := "()V" } : Jvm.MethodName))) := by decide +kernel
theorem tw_u354 : lw_tbl[354]? = some ((Jvm.Cond.classLink "TreasureWalk$Survey" (9 : Nat) "TreasureWalk$Flood")) := by decide +kernel
theorem tw_u355 : lw_tbl[355]? = some ((Jvm.Cond.instantiable "TreasureWalk$Flood" (2 : Nat))) := by decide +kernel
theorem tw_u356 : lw_tbl[356]? = some ((Jvm.Cond.methodLinkNest "TreasureWalk$Survey" (11 : Nat) ({ cls := "TreasureWalk$Flood", name := "<init>", desc := "()V" } : Jvm.MethodName) "TreasureWalk")) := by decide +kernel
theorem tw_u357 : lw_tbl[357]? = some ((Jvm.Cond.instanceMethod ({ cls := "TreasureWalk$Flood", name := "<init>", desc := "()V" } : Jvm.MethodName))) := by decide +kernel
theorem tw_u358 : lw_tbl[358]? = some ((Jvm.Cond.code ({ cls := "TreasureWalk$Flood", name := "<init>", desc := "()V" } : Jvm.MethodName) prog_5_method_1_code (1 : Nat) (Option.none : Option Jvm.ClassFile.FieldType))) := by decide +kernel
theorem tw_u359 : lw_tbl[359]? = some ((Jvm.Cond.methodLink "TreasureWalk$Flood" (3 : Nat) ({ cls := "java/lang/Object", name := "<init>", desc := "()V" } : Jvm.MethodName))) := by decide +kernel
theorem tw_u360 : lw_tbl[360]? = some ((Jvm.Cond.classLink "TreasureWalk$Flood" (9 : Nat) "TreasureWalk$Row")) := by decide +kernel
theorem tw_u361 : lw_tbl[361]? = some ((Jvm.Cond.methodLink "TreasureWalk$Flood" (11 : Nat) ({ cls := "TreasureWalk$Row", name := "<init>", desc := "(I)V" } : Jvm.MethodName))) := by decide +kernel
theorem tw_u362 : lw_tbl[362]? = some ((Jvm.Cond.fieldLink "TreasureWalk$Flood" (14 : Nat) "TreasureWalk$Flood" "distances" "LTreasureWalk$Row;")) := by decide +kernel
theorem tw_u364 : lw_tbl[364]? = some ((Jvm.Cond.fieldLink "TreasureWalk$Flood" (20 : Nat) "TreasureWalk$Flood" "queue" "LTreasureWalk$Row;")) := by decide +kernel
theorem tw_u370 : lw_tbl[370]? = some ((Jvm.Cond.classLink "TreasureWalk$Survey" (18 : Nat) "TreasureWalk$Cells")) := by decide +kernel
theorem tw_u371 : lw_tbl[371]? = some ((Jvm.Cond.methodLinkNest "TreasureWalk$Survey" (20 : Nat) ({ cls := "TreasureWalk$Cells", name := "<init>", desc := "()V" } : Jvm.MethodName) "TreasureWalk")) := by decide +kernel
theorem tw_u372 : lw_tbl[372]? = some ((Jvm.Cond.fieldLink "TreasureWalk$Survey" (25 : Nat) "TreasureWalk$Survey" "data" "LTreasureWalk$Data;")) := by decide +kernel
theorem tw_u373 : lw_tbl[373]? = some ((Jvm.Cond.fieldLink "TreasureWalk$Survey" (29 : Nat) "TreasureWalk$Survey" "trails" "LTreasureWalk$Trails;")) := by decide +kernel
theorem tw_u374 : lw_tbl[374]? = some ((Jvm.Cond.fieldLink "TreasureWalk$Survey" (12 : Nat) "TreasureWalk$Survey" "flood" "LTreasureWalk$Flood;")) := by decide +kernel
theorem tw_u375 : lw_tbl[375]? = some ((Jvm.Cond.fieldLink "TreasureWalk$Survey" (21 : Nat) "TreasureWalk$Survey" "chosen" "LTreasureWalk$Cells;")) := by decide +kernel
theorem tw_u389 : lw_tbl[389]? = some ((Jvm.Cond.code ({ cls := "TreasureWalk$History", name := "<init>", desc := "()V" } : Jvm.MethodName) prog_6_method_1_code (2 : Nat) (Option.none : Option Jvm.ClassFile.FieldType))) := by decide +kernel
theorem tw_u390 : lw_tbl[390]? = some ((Jvm.Cond.methodLink "TreasureWalk$History" (3 : Nat) ({ cls := "java/lang/Object", name := "<init>", desc := "()V" } : Jvm.MethodName))) := by decide +kernel
theorem tw_u391 : lw_tbl[391]? = some ((Jvm.Cond.classLink "TreasureWalk$History" (9 : Nat) "TreasureWalk$Data")) := by decide +kernel
theorem tw_u393 : lw_tbl[393]? = some ((Jvm.Cond.methodLinkNest "TreasureWalk$History" (17 : Nat) ({ cls := "TreasureWalk$Data", name := "<init>", desc := "()V" } : Jvm.MethodName) "TreasureWalk")) := by decide +kernel
theorem tw_u394 : lw_tbl[394]? = some ((Jvm.Cond.fieldLink "TreasureWalk$History" (11 : Nat) "TreasureWalk$History" "kept" "[LTreasureWalk$Data;")) := by decide +kernel
theorem tw_u409 : lw_tbl[409]? = some ((Jvm.Cond.code ({ cls := "TreasureWalk$Reader", name := "<init>", desc := "()V" } : Jvm.MethodName) prog_8_method_1_code (1 : Nat) (Option.none : Option Jvm.ClassFile.FieldType))) := by decide +kernel
theorem tw_u410 : lw_tbl[410]? = some ((Jvm.Cond.methodLink "TreasureWalk$Reader" (3 : Nat) ({ cls := "java/lang/Object", name := "<init>", desc := "()V" } : Jvm.MethodName))) := by decide +kernel
theorem tw_u411 : lw_tbl[411]? = some ((Jvm.Cond.classLink "TreasureWalk$Reader" (9 : Nat) "TreasureWalk$Row")) := by decide +kernel
theorem tw_u412 : lw_tbl[412]? = some ((Jvm.Cond.methodLink "TreasureWalk$Reader" (11 : Nat) ({ cls := "TreasureWalk$Row", name := "<init>", desc := "(I)V" } : Jvm.MethodName))) := by decide +kernel
theorem tw_u413 : lw_tbl[413]? = some ((Jvm.Cond.classLink "TreasureWalk$Reader" (20 : Nat) "TreasureWalk$Data")) := by decide +kernel
theorem tw_u414 : lw_tbl[414]? = some ((Jvm.Cond.methodLinkNest "TreasureWalk$Reader" (22 : Nat) ({ cls := "TreasureWalk$Data", name := "<init>", desc := "()V" } : Jvm.MethodName) "TreasureWalk")) := by decide +kernel
theorem tw_u415 : lw_tbl[415]? = some ((Jvm.Cond.fieldLink "TreasureWalk$Reader" (14 : Nat) "TreasureWalk$Reader" "text" "LTreasureWalk$Row;")) := by decide +kernel
theorem tw_u418 : lw_tbl[418]? = some ((Jvm.Cond.fieldLink "TreasureWalk$Reader" (23 : Nat) "TreasureWalk$Reader" "draft" "LTreasureWalk$Data;")) := by decide +kernel
theorem tw_u456 : lw_tbl[456]? = some ((Jvm.Cond.code ({ cls := "TreasureWalk$Tours", name := "<init>", desc := "(LTreasureWalk$Data;LTreasureWalk$Survey;)V" } : Jvm.MethodName) prog_11_method_1_code (3 : Nat) (Option.none : Option Jvm.ClassFile.FieldType))) := by decide +kernel
theorem tw_u457 : lw_tbl[457]? = some ((Jvm.Cond.methodLink "TreasureWalk$Tours" (3 : Nat) ({ cls := "java/lang/Object", name := "<init>", desc := "()V" } : Jvm.MethodName))) := by decide +kernel
theorem tw_u458 : lw_tbl[458]? = some ((Jvm.Cond.classLink "TreasureWalk$Tours" (9 : Nat) "TreasureWalk$Row")) := by decide +kernel
theorem tw_u459 : lw_tbl[459]? = some ((Jvm.Cond.methodLink "TreasureWalk$Tours" (11 : Nat) ({ cls := "TreasureWalk$Row", name := "<init>", desc := "(I)V" } : Jvm.MethodName))) := by decide +kernel
theorem tw_u460 : lw_tbl[460]? = some ((Jvm.Cond.fieldLink "TreasureWalk$Tours" (26 : Nat) "TreasureWalk$Tours" "data" "LTreasureWalk$Data;")) := by decide +kernel
theorem tw_u461 : lw_tbl[461]? = some ((Jvm.Cond.fieldLink "TreasureWalk$Tours" (30 : Nat) "TreasureWalk$Tours" "survey" "LTreasureWalk$Survey;")) := by decide +kernel
theorem tw_u463 : lw_tbl[463]? = some ((Jvm.Cond.fieldLink "TreasureWalk$Tours" (14 : Nat) "TreasureWalk$Tours" "stops" "LTreasureWalk$Row;")) := by decide +kernel
theorem tw_u464 : lw_tbl[464]? = some ((Jvm.Cond.fieldLink "TreasureWalk$Tours" (20 : Nat) "TreasureWalk$Tours" "hops" "LTreasureWalk$Row;")) := by decide +kernel
theorem tw_u465 : lw_tbl[465]? = some ((Jvm.Cond.fieldLink "TreasureWalk$Tours" (23 : Nat) "TreasureWalk$Tours" "best" "LTreasureWalk$Row;")) := by decide +kernel
theorem tw_u1241 : lw_tbl[1241]? = some ((Jvm.Cond.code ({ cls := "TreasureWalkModel", name := "<init>", desc := "()V" } : Jvm.MethodName) prog_14_method_1_code (1 : Nat) (Option.none : Option Jvm.ClassFile.FieldType))) := by decide +kernel
theorem tw_i32s (i : Nat) : Int32.ofNat i + Int32.ofInt 1 = Int32.ofNat (i + 1) := by rw [Int32.ofNat_add]; rfl
theorem tw_i32le {a b : Nat} (ha : a < 2147483648) (hb : b < 2147483648) : Int32.ofNat a ≤ Int32.ofNat b ↔ a ≤ b := by
  rw [Int32.le_iff_toInt_le, Int32.toInt_ofNat_of_lt (by simpa using ha), Int32.toInt_ofNat_of_lt (by simpa using hb)]
  omega
theorem tw_i32n {a : Nat} (ha : a < 2147483648) : (Int32.ofNat a).toNatClampNeg = a := Int32.toNatClampNeg_ofNat_of_lt (by simpa using ha)
theorem tw_df0 : ∀ j, j < 1 → defaultValue (tyX0 j) = vp_V [.null] j := by
  intro j hj
  have := List.mem_range.mpr hj
  revert j
  decide +kernel
theorem tw_y_X0_init : tw_My yX0_init cX0_init 1 none 0 := ⟨List.mem_of_getElem? tw_u133, List.mem_of_getElem? tw_u90, by decide +kernel, by decide +kernel, by decide +kernel⟩
theorem tw_df1 : ∀ j, j < 10 → defaultValue (tyX1 j) = vp_V [.int 0, .null, .null, .null, .null, .null, .null, .null, .null, .null] j := by
  intro j hj
  have := List.mem_range.mpr hj
  revert j
  decide +kernel
theorem tw_y_X1_init : tw_My yX1_init cX1_init 1 none 0 := ⟨List.mem_of_getElem? tw_u154, List.mem_of_getElem? tw_u92, by decide +kernel, by decide +kernel, by decide +kernel⟩
theorem tw_df2 : ∀ j, j < 14 → defaultValue (tyX2 j) = vp_V [.int 0, .int 0, .null, .null, .null, .int 0, .null, .null, .null, .null, .int 0, .int 0, .int 0, .int 0] j := by
  intro j hj
  have := List.mem_range.mpr hj
  revert j
  decide +kernel
theorem tw_y_X2_init : tw_My yX2_init cX2_init 1 none 0 := ⟨List.mem_of_getElem? tw_u127, List.mem_of_getElem? tw_u89, by decide +kernel, by decide +kernel, by decide +kernel⟩
theorem tw_df3 : ∀ j, j < 2 → defaultValue (tyX3 j) = vp_V [.null, .null] j := by
  intro j hj
  have := List.mem_range.mpr hj
  revert j
  decide +kernel
theorem tw_y_X3_init : tw_My yX3_init cX3_init 1 none 0 := ⟨List.mem_of_getElem? tw_u358, List.mem_of_getElem? tw_u97, by decide +kernel, by decide +kernel, by decide +kernel⟩
theorem tw_df4 : ∀ j, j < 3 → defaultValue (tyX4 j) = vp_V [.null, .int 0, .int 0] j := by
  intro j hj
  have := List.mem_range.mpr hj
  revert j
  decide +kernel
theorem tw_y_X4_init : tw_My yX4_init cX4_init 2 none 0 := ⟨List.mem_of_getElem? tw_u389, List.mem_of_getElem? tw_u98, by decide +kernel, by decide +kernel, by decide +kernel⟩
theorem tw_df5 : ∀ j, j < 2 → defaultValue (tyX5 j) = vp_V [.null, .null] j := by
  intro j hj
  have := List.mem_range.mpr hj
  revert j
  decide +kernel
theorem tw_y_X5_init : tw_My yX5_init cX5_init 3 none 1 := ⟨List.mem_of_getElem? tw_u323, List.mem_of_getElem? tw_u95, by decide +kernel, by decide +kernel, by decide +kernel⟩
theorem tw_df6 : ∀ j, j < 11 → defaultValue (tyX6 j) = vp_V [.null, .int 0, .null, .int 0, .int 0, .int 0, .int 0, .int 0, .int 0, .int 0, .int 0] j := by
  intro j hj
  have := List.mem_range.mpr hj
  revert j
  decide +kernel
theorem tw_y_X6_init : tw_My yX6_init cX6_init 1 none 0 := ⟨List.mem_of_getElem? tw_u409, List.mem_of_getElem? tw_u99, by decide +kernel, by decide +kernel, by decide +kernel⟩
theorem tw_df7 : ∀ j, j < 1 → defaultValue (tyX7 j) = vp_V [.null] j := by
  intro j hj
  have := List.mem_range.mpr hj
  revert j
  decide +kernel
theorem tw_y_X7_init : tw_My yX7_init cX7_init 2 none 1 := ⟨List.mem_of_getElem? tw_u144, List.mem_of_getElem? tw_u91, by decide +kernel, by decide +kernel, by decide +kernel⟩
theorem tw_df8 : ∀ j, j < 4 → defaultValue (tyX8 j) = vp_V [.null, .null, .null, .null] j := by
  intro j hj
  have := List.mem_range.mpr hj
  revert j
  decide +kernel
theorem tw_y_X8_init : tw_My yX8_init cX8_init 3 none 2 := ⟨List.mem_of_getElem? tw_u352, List.mem_of_getElem? tw_u96, by decide +kernel, by decide +kernel, by decide +kernel⟩
theorem tw_df9 : ∀ j, j < 6 → defaultValue (tyX9 j) = vp_V [.null, .null, .int 0, .null, .null, .null] j := by
  intro j hj
  have := List.mem_range.mpr hj
  revert j
  decide +kernel
theorem tw_y_X9_init : tw_My yX9_init cX9_init 3 none 2 := ⟨List.mem_of_getElem? tw_u456, List.mem_of_getElem? tw_u100, by decide +kernel, by decide +kernel, by decide +kernel⟩
theorem tw_df10 : ∀ j, j < 4 → defaultValue (tyX10 j) = vp_V [.null, .null, .null, .null] j := by
  intro j hj
  have := List.mem_range.mpr hj
  revert j
  decide +kernel
theorem tw_y_X10_init : tw_My yX10_init cX10_init 2 none 1 := ⟨List.mem_of_getElem? tw_u315, List.mem_of_getElem? tw_u94, by decide +kernel, by decide +kernel, by decide +kernel⟩
theorem tw_df11 : ∀ j, j < 7 → defaultValue (tyX11 j) = vp_V [.null, .null, .null, .null, .null, .null, .int 0] j := by
  intro j hj
  have := List.mem_range.mpr hj
  revert j
  decide +kernel
theorem tw_y_X11_init : tw_My yX11_init cX11_init 4 none 0 := ⟨List.mem_of_getElem? tw_u119, List.mem_of_getElem? tw_u88, by decide +kernel, by decide +kernel, by decide +kernel⟩
theorem tw_df12 : ∀ j, j < 31 → defaultValue (tyX12 j) = vp_V [.int 0, .null, .int 0, .int 0, .int 0, .int 0, .int 0, .int 0, .null, .null, .null, .int 0, .int 0, .int 0, .int 0, .int 0, .int 0, .int 0, .int 0, .null, .null, .null, .int 0, .null, .null, .null, .null, .null, .null, .null, .null] j := by
  intro j hj
  have := List.mem_range.mpr hj
  revert j
  decide +kernel
theorem tw_y_X12_init : tw_My yX12_init cX12_init 1 none 0 := ⟨List.mem_of_getElem? tw_u1241, List.mem_of_getElem? tw_u101, by decide +kernel, by decide +kernel, by decide +kernel⟩
theorem tw_kd0_1 {k : Nat} (h : tw_kd k = 0) : tw_kd (k + 1) = 13 := by exact eq_of_beq (tw_kdk (f := fun k => tw_kd (k + 1) == 13) (by decide) (by decide +kernel) h)
theorem tw_ln0_1 {k : Nat} (h : tw_kd k = 0) : tw_ln (k + 1) = 22 := by exact eq_of_beq (tw_kdk (f := fun k => tw_ln (k + 1) == 22) (by decide) (by decide +kernel) h)
theorem tw_kd1_1 {k : Nat} (h : tw_kd k = 1) : tw_kd (k + 1) = 7 := by exact eq_of_beq (tw_kdk (f := fun k => tw_kd (k + 1) == 7) (by decide) (by decide +kernel) h)
theorem tw_kd1_2 {k : Nat} (h : tw_kd k = 1) : tw_kd (k + 2) = 13 := by exact eq_of_beq (tw_kdk (f := fun k => tw_kd (k + 2) == 13) (by decide) (by decide +kernel) h)
theorem tw_ln1_2 {k : Nat} (h : tw_kd k = 1) : tw_ln (k + 2) = 4 := by exact eq_of_beq (tw_kdk (f := fun k => tw_ln (k + 2) == 4) (by decide) (by decide +kernel) h)
theorem tw_kd1_3 {k : Nat} (h : tw_kd k = 1) : tw_kd (k + 3) = 7 := by exact eq_of_beq (tw_kdk (f := fun k => tw_kd (k + 3) == 7) (by decide) (by decide +kernel) h)
theorem tw_kd1_4 {k : Nat} (h : tw_kd k = 1) : tw_kd (k + 4) = 13 := by exact eq_of_beq (tw_kdk (f := fun k => tw_kd (k + 4) == 13) (by decide) (by decide +kernel) h)
theorem tw_ln1_4 {k : Nat} (h : tw_kd k = 1) : tw_ln (k + 4) = 4 := by exact eq_of_beq (tw_kdk (f := fun k => tw_ln (k + 4) == 4) (by decide) (by decide +kernel) h)
theorem tw_kd1_5 {k : Nat} (h : tw_kd k = 1) : tw_kd (k + 5) = 7 := by exact eq_of_beq (tw_kdk (f := fun k => tw_kd (k + 5) == 7) (by decide) (by decide +kernel) h)
theorem tw_kd1_6 {k : Nat} (h : tw_kd k = 1) : tw_kd (k + 6) = 13 := by exact eq_of_beq (tw_kdk (f := fun k => tw_kd (k + 6) == 13) (by decide) (by decide +kernel) h)
theorem tw_ln1_6 {k : Nat} (h : tw_kd k = 1) : tw_ln (k + 6) = 32 := by exact eq_of_beq (tw_kdk (f := fun k => tw_ln (k + 6) == 32) (by decide) (by decide +kernel) h)
theorem tw_kd1_7 {k : Nat} (h : tw_kd k = 1) : tw_kd (k + 7) = 7 := by exact eq_of_beq (tw_kdk (f := fun k => tw_kd (k + 7) == 7) (by decide) (by decide +kernel) h)
theorem tw_kd1_8 {k : Nat} (h : tw_kd k = 1) : tw_kd (k + 8) = 13 := by exact eq_of_beq (tw_kdk (f := fun k => tw_kd (k + 8) == 13) (by decide) (by decide +kernel) h)
theorem tw_ln1_8 {k : Nat} (h : tw_kd k = 1) : tw_ln (k + 8) = 4 := by exact eq_of_beq (tw_kdk (f := fun k => tw_ln (k + 8) == 4) (by decide) (by decide +kernel) h)
theorem tw_kd1_9 {k : Nat} (h : tw_kd k = 1) : tw_kd (k + 9) = 7 := by exact eq_of_beq (tw_kdk (f := fun k => tw_kd (k + 9) == 7) (by decide) (by decide +kernel) h)
theorem tw_kd1_10 {k : Nat} (h : tw_kd k = 1) : tw_kd (k + 10) = 13 := by exact eq_of_beq (tw_kdk (f := fun k => tw_kd (k + 10) == 13) (by decide) (by decide +kernel) h)
theorem tw_ln1_10 {k : Nat} (h : tw_kd k = 1) : tw_ln (k + 10) = 32 := by exact eq_of_beq (tw_kdk (f := fun k => tw_ln (k + 10) == 32) (by decide) (by decide +kernel) h)
theorem tw_kd1_11 {k : Nat} (h : tw_kd k = 1) : tw_kd (k + 11) = 7 := by exact eq_of_beq (tw_kdk (f := fun k => tw_kd (k + 11) == 7) (by decide) (by decide +kernel) h)
theorem tw_kd1_12 {k : Nat} (h : tw_kd k = 1) : tw_kd (k + 12) = 13 := by exact eq_of_beq (tw_kdk (f := fun k => tw_kd (k + 12) == 13) (by decide) (by decide +kernel) h)
theorem tw_ln1_12 {k : Nat} (h : tw_kd k = 1) : tw_ln (k + 12) = 32 := by exact eq_of_beq (tw_kdk (f := fun k => tw_ln (k + 12) == 32) (by decide) (by decide +kernel) h)
theorem tw_kd1_13 {k : Nat} (h : tw_kd k = 1) : tw_kd (k + 13) = 7 := by exact eq_of_beq (tw_kdk (f := fun k => tw_kd (k + 13) == 7) (by decide) (by decide +kernel) h)
theorem tw_kd1_14 {k : Nat} (h : tw_kd k = 1) : tw_kd (k + 14) = 13 := by exact eq_of_beq (tw_kdk (f := fun k => tw_kd (k + 14) == 13) (by decide) (by decide +kernel) h)
theorem tw_ln1_14 {k : Nat} (h : tw_kd k = 1) : tw_ln (k + 14) = 32 := by exact eq_of_beq (tw_kdk (f := fun k => tw_ln (k + 14) == 32) (by decide) (by decide +kernel) h)
theorem tw_kd1_15 {k : Nat} (h : tw_kd k = 1) : tw_kd (k + 15) = 7 := by exact eq_of_beq (tw_kdk (f := fun k => tw_kd (k + 15) == 7) (by decide) (by decide +kernel) h)
theorem tw_kd1_16 {k : Nat} (h : tw_kd k = 1) : tw_kd (k + 16) = 13 := by exact eq_of_beq (tw_kdk (f := fun k => tw_kd (k + 16) == 13) (by decide) (by decide +kernel) h)
theorem tw_ln1_16 {k : Nat} (h : tw_kd k = 1) : tw_ln (k + 16) = 32 := by exact eq_of_beq (tw_kdk (f := fun k => tw_ln (k + 16) == 32) (by decide) (by decide +kernel) h)
theorem tw_kd1_17 {k : Nat} (h : tw_kd k = 1) : tw_kd (k + 17) = 7 := by exact eq_of_beq (tw_kdk (f := fun k => tw_kd (k + 17) == 7) (by decide) (by decide +kernel) h)
theorem tw_kd1_18 {k : Nat} (h : tw_kd k = 1) : tw_kd (k + 18) = 13 := by exact eq_of_beq (tw_kdk (f := fun k => tw_kd (k + 18) == 13) (by decide) (by decide +kernel) h)
theorem tw_ln1_18 {k : Nat} (h : tw_kd k = 1) : tw_ln (k + 18) = 32 := by exact eq_of_beq (tw_kdk (f := fun k => tw_ln (k + 18) == 32) (by decide) (by decide +kernel) h)
theorem tw_kd2_1 {k : Nat} (h : tw_kd k = 2) : tw_kd (k + 1) = 0 := by exact eq_of_beq (tw_kdk (f := fun k => tw_kd (k + 1) == 0) (by decide) (by decide +kernel) h)
theorem tw_kd2_2 {k : Nat} (h : tw_kd k = 2) : tw_kd (k + 2) = 13 := by exact eq_of_beq (tw_kdk (f := fun k => tw_kd (k + 2) == 13) (by decide) (by decide +kernel) h)
theorem tw_ln2_2 {k : Nat} (h : tw_kd k = 2) : tw_ln (k + 2) = 22 := by exact eq_of_beq (tw_kdk (f := fun k => tw_ln (k + 2) == 22) (by decide) (by decide +kernel) h)
theorem tw_kd2_3 {k : Nat} (h : tw_kd k = 2) : tw_kd (k + 3) = 0 := by exact eq_of_beq (tw_kdk (f := fun k => tw_kd (k + 3) == 0) (by decide) (by decide +kernel) h)
theorem tw_kd2_4 {k : Nat} (h : tw_kd k = 2) : tw_kd (k + 4) = 13 := by exact eq_of_beq (tw_kdk (f := fun k => tw_kd (k + 4) == 13) (by decide) (by decide +kernel) h)
theorem tw_ln2_4 {k : Nat} (h : tw_kd k = 2) : tw_ln (k + 4) = 22 := by exact eq_of_beq (tw_kdk (f := fun k => tw_ln (k + 4) == 22) (by decide) (by decide +kernel) h)
theorem tw_kd2_5 {k : Nat} (h : tw_kd k = 2) : tw_kd (k + 5) = 7 := by exact eq_of_beq (tw_kdk (f := fun k => tw_kd (k + 5) == 7) (by decide) (by decide +kernel) h)
theorem tw_kd2_6 {k : Nat} (h : tw_kd k = 2) : tw_kd (k + 6) = 13 := by exact eq_of_beq (tw_kdk (f := fun k => tw_kd (k + 6) == 13) (by decide) (by decide +kernel) h)
theorem tw_ln2_6 {k : Nat} (h : tw_kd k = 2) : tw_ln (k + 6) = 8 := by exact eq_of_beq (tw_kdk (f := fun k => tw_ln (k + 6) == 8) (by decide) (by decide +kernel) h)
theorem tw_kd2_7 {k : Nat} (h : tw_kd k = 2) : tw_kd (k + 7) = 7 := by exact eq_of_beq (tw_kdk (f := fun k => tw_kd (k + 7) == 7) (by decide) (by decide +kernel) h)
theorem tw_kd2_8 {k : Nat} (h : tw_kd k = 2) : tw_kd (k + 8) = 13 := by exact eq_of_beq (tw_kdk (f := fun k => tw_kd (k + 8) == 13) (by decide) (by decide +kernel) h)
theorem tw_ln2_8 {k : Nat} (h : tw_kd k = 2) : tw_ln (k + 8) = 8 := by exact eq_of_beq (tw_kdk (f := fun k => tw_ln (k + 8) == 8) (by decide) (by decide +kernel) h)
theorem tw_kd2_9 {k : Nat} (h : tw_kd k = 2) : tw_kd (k + 9) = 7 := by exact eq_of_beq (tw_kdk (f := fun k => tw_kd (k + 9) == 7) (by decide) (by decide +kernel) h)
theorem tw_kd2_10 {k : Nat} (h : tw_kd k = 2) : tw_kd (k + 10) = 13 := by exact eq_of_beq (tw_kdk (f := fun k => tw_kd (k + 10) == 13) (by decide) (by decide +kernel) h)
theorem tw_ln2_10 {k : Nat} (h : tw_kd k = 2) : tw_ln (k + 10) = 8 := by exact eq_of_beq (tw_kdk (f := fun k => tw_ln (k + 10) == 8) (by decide) (by decide +kernel) h)
theorem tw_kd2_11 {k : Nat} (h : tw_kd k = 2) : tw_kd (k + 11) = 7 := by exact eq_of_beq (tw_kdk (f := fun k => tw_kd (k + 11) == 7) (by decide) (by decide +kernel) h)
theorem tw_kd2_12 {k : Nat} (h : tw_kd k = 2) : tw_kd (k + 12) = 13 := by exact eq_of_beq (tw_kdk (f := fun k => tw_kd (k + 12) == 13) (by decide) (by decide +kernel) h)
theorem tw_ln2_12 {k : Nat} (h : tw_kd k = 2) : tw_ln (k + 12) = 8 := by exact eq_of_beq (tw_kdk (f := fun k => tw_ln (k + 12) == 8) (by decide) (by decide +kernel) h)
theorem tw_kd2_13 {k : Nat} (h : tw_kd k = 2) : tw_kd (k + 13) = 1 := by exact eq_of_beq (tw_kdk (f := fun k => tw_kd (k + 13) == 1) (by decide) (by decide +kernel) h)
theorem tw_kd2_14 {k : Nat} (h : tw_kd k = 2) : tw_kd (k + 14) = 7 := by exact eq_of_beq (tw_kdk (f := fun k => tw_kd (k + 14) == 7) (by decide) (by decide +kernel) h)
theorem tw_kd2_15 {k : Nat} (h : tw_kd k = 2) : tw_kd (k + 15) = 13 := by exact eq_of_beq (tw_kdk (f := fun k => tw_kd (k + 15) == 13) (by decide) (by decide +kernel) h)
theorem tw_ln2_15 {k : Nat} (h : tw_kd k = 2) : tw_ln (k + 15) = 4 := by exact eq_of_beq (tw_kdk (f := fun k => tw_ln (k + 15) == 4) (by decide) (by decide +kernel) h)
theorem tw_kd2_16 {k : Nat} (h : tw_kd k = 2) : tw_kd (k + 16) = 7 := by exact eq_of_beq (tw_kdk (f := fun k => tw_kd (k + 16) == 7) (by decide) (by decide +kernel) h)
theorem tw_kd2_17 {k : Nat} (h : tw_kd k = 2) : tw_kd (k + 17) = 13 := by exact eq_of_beq (tw_kdk (f := fun k => tw_kd (k + 17) == 13) (by decide) (by decide +kernel) h)
theorem tw_ln2_17 {k : Nat} (h : tw_kd k = 2) : tw_ln (k + 17) = 4 := by exact eq_of_beq (tw_kdk (f := fun k => tw_ln (k + 17) == 4) (by decide) (by decide +kernel) h)
theorem tw_kd2_18 {k : Nat} (h : tw_kd k = 2) : tw_kd (k + 18) = 7 := by exact eq_of_beq (tw_kdk (f := fun k => tw_kd (k + 18) == 7) (by decide) (by decide +kernel) h)
theorem tw_kd2_19 {k : Nat} (h : tw_kd k = 2) : tw_kd (k + 19) = 13 := by exact eq_of_beq (tw_kdk (f := fun k => tw_kd (k + 19) == 13) (by decide) (by decide +kernel) h)
theorem tw_ln2_19 {k : Nat} (h : tw_kd k = 2) : tw_ln (k + 19) = 32 := by exact eq_of_beq (tw_kdk (f := fun k => tw_ln (k + 19) == 32) (by decide) (by decide +kernel) h)
theorem tw_kd2_20 {k : Nat} (h : tw_kd k = 2) : tw_kd (k + 20) = 7 := by exact eq_of_beq (tw_kdk (f := fun k => tw_kd (k + 20) == 7) (by decide) (by decide +kernel) h)
theorem tw_kd2_21 {k : Nat} (h : tw_kd k = 2) : tw_kd (k + 21) = 13 := by exact eq_of_beq (tw_kdk (f := fun k => tw_kd (k + 21) == 13) (by decide) (by decide +kernel) h)
theorem tw_ln2_21 {k : Nat} (h : tw_kd k = 2) : tw_ln (k + 21) = 4 := by exact eq_of_beq (tw_kdk (f := fun k => tw_ln (k + 21) == 4) (by decide) (by decide +kernel) h)
theorem tw_kd2_22 {k : Nat} (h : tw_kd k = 2) : tw_kd (k + 22) = 7 := by exact eq_of_beq (tw_kdk (f := fun k => tw_kd (k + 22) == 7) (by decide) (by decide +kernel) h)
theorem tw_kd2_23 {k : Nat} (h : tw_kd k = 2) : tw_kd (k + 23) = 13 := by exact eq_of_beq (tw_kdk (f := fun k => tw_kd (k + 23) == 13) (by decide) (by decide +kernel) h)
theorem tw_ln2_23 {k : Nat} (h : tw_kd k = 2) : tw_ln (k + 23) = 32 := by exact eq_of_beq (tw_kdk (f := fun k => tw_ln (k + 23) == 32) (by decide) (by decide +kernel) h)
theorem tw_kd2_24 {k : Nat} (h : tw_kd k = 2) : tw_kd (k + 24) = 7 := by exact eq_of_beq (tw_kdk (f := fun k => tw_kd (k + 24) == 7) (by decide) (by decide +kernel) h)
theorem tw_kd2_25 {k : Nat} (h : tw_kd k = 2) : tw_kd (k + 25) = 13 := by exact eq_of_beq (tw_kdk (f := fun k => tw_kd (k + 25) == 13) (by decide) (by decide +kernel) h)
theorem tw_ln2_25 {k : Nat} (h : tw_kd k = 2) : tw_ln (k + 25) = 32 := by exact eq_of_beq (tw_kdk (f := fun k => tw_ln (k + 25) == 32) (by decide) (by decide +kernel) h)
theorem tw_kd2_26 {k : Nat} (h : tw_kd k = 2) : tw_kd (k + 26) = 7 := by exact eq_of_beq (tw_kdk (f := fun k => tw_kd (k + 26) == 7) (by decide) (by decide +kernel) h)
theorem tw_kd2_27 {k : Nat} (h : tw_kd k = 2) : tw_kd (k + 27) = 13 := by exact eq_of_beq (tw_kdk (f := fun k => tw_kd (k + 27) == 13) (by decide) (by decide +kernel) h)
theorem tw_ln2_27 {k : Nat} (h : tw_kd k = 2) : tw_ln (k + 27) = 32 := by exact eq_of_beq (tw_kdk (f := fun k => tw_ln (k + 27) == 32) (by decide) (by decide +kernel) h)
theorem tw_kd2_28 {k : Nat} (h : tw_kd k = 2) : tw_kd (k + 28) = 7 := by exact eq_of_beq (tw_kdk (f := fun k => tw_kd (k + 28) == 7) (by decide) (by decide +kernel) h)
theorem tw_kd2_29 {k : Nat} (h : tw_kd k = 2) : tw_kd (k + 29) = 13 := by exact eq_of_beq (tw_kdk (f := fun k => tw_kd (k + 29) == 13) (by decide) (by decide +kernel) h)
theorem tw_ln2_29 {k : Nat} (h : tw_kd k = 2) : tw_ln (k + 29) = 32 := by exact eq_of_beq (tw_kdk (f := fun k => tw_ln (k + 29) == 32) (by decide) (by decide +kernel) h)
theorem tw_kd2_30 {k : Nat} (h : tw_kd k = 2) : tw_kd (k + 30) = 7 := by exact eq_of_beq (tw_kdk (f := fun k => tw_kd (k + 30) == 7) (by decide) (by decide +kernel) h)
theorem tw_kd2_31 {k : Nat} (h : tw_kd k = 2) : tw_kd (k + 31) = 13 := by exact eq_of_beq (tw_kdk (f := fun k => tw_kd (k + 31) == 13) (by decide) (by decide +kernel) h)
theorem tw_ln2_31 {k : Nat} (h : tw_kd k = 2) : tw_ln (k + 31) = 32 := by exact eq_of_beq (tw_kdk (f := fun k => tw_ln (k + 31) == 32) (by decide) (by decide +kernel) h)
set_option maxRecDepth 100000 in
set_option maxHeartbeats 4000000 in
theorem tw_i_X7 {l : Launch} {B : Nat} {D : va_G} {C : Nat → ClassId} {S : Nat → Nat} {σ : tw_Sg} {F : Nat → va_E} {k : Nat} {n : Int32} {N : Nat} (hk : tw_kd k = 7) (hl : tw_ln (k + 1) = N) (hn : Int32.ofNat N = n) (hN : 0 < N ∧ N ≤ 10000) (h0 : ∀ q, k ≤ q → q < (k + 2) → σ q = fun _ => 0) (hF : F k = .inr (7, [.null])) : tw_MetC l B D C S yX7_init cX7_init 2 { frames := 1, cells := 1, slots := N, locals := 20 } [.ref (B + k), .int n] F (k + 1) (tw_fin (tw_E B C σ) F k (k + 2)) (k + 2) := by
  refine tw_metOfC (by decide +kernel) (Nat.le_of_ble_eq_true rfl) ?_
  intro z el eB eD eC eS eR ec es hz hAK hnm X hret hQ
  subst el eB eD eC eS
  have X : tw_X z cX7_init "TreasureWalk$Row" 2 := X
  show tw_Rc z F (k + 1) 0 [(0, .ref (tw_zB z + k)), (1, .int n)] []
  refine tw_Rc.z0 ec es ?_
  refine tw_Rc.cong ?_ (tw_cw_0 (G := tw_E (tw_zB z) (tw_zC z) σ) hF)
  obtain ⟨hN1, hN2⟩ := hN
  have hpos : ¬ n ≤ 0 := by
    rw [← hn, show (0 : Int32) = Int32.ofNat 0 from rfl, tw_i32le (by omega) (by omega)]
    omega
  have hneg : ¬ n < 0 := by
    rw [← hn, show (0 : Int32) = Int32.ofNat 0 from rfl]
    intro h
    rw [Int32.lt_iff_toInt_lt, Int32.toInt_ofNat_of_lt (by omega), Int32.toInt_ofNat_of_lt (by omega)] at h
    omega
  have hnc : n.toNatClampNeg = N := by rw [← hn]; exact tw_i32n (by omega)
  have hb4 : N * 4 ≤ 536870912 := by omega
  refine c_aload_n (z := tw_cz z 0 0) X dX7_init_0 rfl 0 rfl ?_
  refine c_obj (z := tw_cz z 0 0) X dX7_init_1 _ tw_u145 (List.mem_of_getElem? tw_u121) (List.mem_of_getElem? tw_u122) (by show 1 ≤ (tw_zR z).frames; rw [eR]; exact Nat.le_of_ble_eq_true rfl) (by show 20 ≤ (tw_zR z).locals; rw [eR]; exact Nat.le_of_ble_eq_true rfl) (Nat.le_of_ble_eq_true rfl) ?_
  refine c_aload_n (z := tw_cz z 0 0) X dX7_init_4 rfl 0 rfl ?_
  refine c_iload_n (z := tw_cz z 0 0) X dX7_init_5 rfl 1 rfl ?_
  refine c_ifle (z := tw_cz z 0 0) X dX7_init_6 (by decide) hpos ?_
  refine c_iload_n (z := tw_cz z 0 0) X dX7_init_9 rfl 1 rfl ?_
  refine c_goto (z := tw_cz z 0 0) X dX7_init_10 (tgt := 14) (by decide) ?_
  refine k_newi (c := 0) (s := 0) (c' := 1) (s' := N) (m := (k + 1)) (N := N) X hAK dX7_init_14 hneg hnc hb4 (by rw [eR]; exact Nat.le_of_ble_eq_true rfl) (by rw [eR]; show 0 + N ≤ N; omega) rfl (Nat.zero_add N) (by omega) (by rw [tw_E13 (tw_k7_0 hk), hl, h0 (k + 1) (by omega) (by omega)]) ?_
  refine k_putF (ci := 7) (T := TX7) (f := 0) (fs' := [.ref (tw_zB z + (k + 1))]) (ty := .array .int) X hnm hz (by omega) dX7_init_16 _ tw_u146 tw_in7 tyX7 tyX7_ok nmX7 rfl (by decide) rfl rfl (by decide +kernel) rfl rfl (by omega) (Nat.le_of_ble_eq_true rfl) rfl ?_
  exact k_ret dX7_init_19 hQ rfl rfl (tw_cw_end (by omega) (by rw [tw_E7 hk]; simp [tw_fs7, h0 k (by omega) (by omega)]))
set_option maxRecDepth 100000 in
set_option maxHeartbeats 4000000 in
theorem tw_i_X0 {l : Launch} {B : Nat} {D : va_G} {C : Nat → ClassId} {S : Nat → Nat} {σ : tw_Sg} {F : Nat → va_E} {k : Nat} (hk : tw_kd k = 0) (h0 : ∀ q, k ≤ q → q < (k + 2) → σ q = fun _ => 0) (hF : F k = .inr (0, [.null])) : tw_MetC l B D C S yX0_init cX0_init 1 { frames := 1, cells := 1, slots := 22, locals := 20 } [.ref (B + k)] F (k + 1) (tw_fin (tw_E B C σ) F k (k + 2)) (k + 2) := by
  refine tw_metOfC (by decide +kernel) (Nat.le_of_ble_eq_true rfl) ?_
  intro z el eB eD eC eS eR ec es hz hAK hnm X hret hQ
  subst el eB eD eC eS
  have X : tw_X z cX0_init "TreasureWalk$Cells" 1 := X
  show tw_Rc z F (k + 1) 0 [(0, .ref (tw_zB z + k))] []
  refine tw_Rc.z0 ec es ?_
  refine tw_Rc.cong ?_ (tw_cw_0 (G := tw_E (tw_zB z) (tw_zC z) σ) hF)
  refine c_aload_n (z := tw_cz z 0 0) X dX0_init_0 rfl 0 rfl ?_
  refine c_obj (z := tw_cz z 0 0) X dX0_init_1 _ tw_u134 (List.mem_of_getElem? tw_u121) (List.mem_of_getElem? tw_u122) (by show 1 ≤ (tw_zR z).frames; rw [eR]; exact Nat.le_of_ble_eq_true rfl) (by show 20 ≤ (tw_zR z).locals; rw [eR]; exact Nat.le_of_ble_eq_true rfl) (Nat.le_of_ble_eq_true rfl) ?_
  refine c_aload_n (z := tw_cz z 0 0) X dX0_init_4 rfl 0 rfl ?_
  refine c_bipush (z := tw_cz z 0 0) X dX0_init_5 (v := (22 : Int32)) (by decide) ?_
  refine k_newi (c := 0) (s := 0) (c' := 1) (s' := 22) (m := (k + 1)) (N := 22) X hAK dX0_init_7 (by decide) (by decide) (by omega) (by rw [eR]; exact Nat.le_of_ble_eq_true rfl) (by rw [eR]; exact Nat.le_of_ble_eq_true rfl) rfl rfl (by omega) (by rw [tw_E13 (tw_k0_0 hk), tw_ln0_1 hk, h0 (k + 1) (by omega) (by omega)]) ?_
  refine k_putF (ci := 0) (T := TX0) (f := 0) (fs' := [.ref (tw_zB z + (k + 1))]) (ty := .array .int) X hnm hz (by omega) dX0_init_9 _ tw_u135 tw_in0 tyX0 tyX0_ok nmX0 rfl (by decide) rfl rfl (by decide +kernel) rfl rfl (by omega) (Nat.le_of_ble_eq_true rfl) rfl ?_
  exact k_ret dX0_init_12 hQ rfl rfl (tw_cw_end (by omega) (by rw [tw_E0 hk]; simp [tw_fs0, h0 k (by omega) (by omega)]))
set_option maxRecDepth 100000 in
set_option maxHeartbeats 4000000 in
theorem tw_i_X1 {l : Launch} {B : Nat} {D : va_G} {C : Nat → ClassId} {S : Nat → Nat} {σ : tw_Sg} {F : Nat → va_E} {k : Nat} (hk : tw_kd k = 1) (h0 : ∀ q, k ≤ q → q < (k + 19) → σ q = fun _ => 0) (hF : F k = .inr (1, [.int 0, .null, .null, .null, .null, .null, .null, .null, .null, .null])) : tw_MetC l B D C S yX1_init cX1_init 1 { frames := 2, cells := 18, slots := 213, locals := 41 } [.ref (B + k)] F (k + 1) (tw_fin (tw_E B C σ) F k (k + 19)) (k + 19) := by
  refine tw_metOfC (by decide +kernel) (Nat.le_of_ble_eq_true rfl) ?_
  intro z el eB eD eC eS eR ec es hz hAK hnm X hret hQ
  subst el eB eD eC eS
  have X : tw_X z cX1_init "TreasureWalk$Clues" 1 := X
  show tw_Rc z F (k + 1) 0 [(0, .ref (tw_zB z + k))] []
  refine tw_Rc.z0 ec es ?_
  refine tw_Rc.cong ?_ (tw_cw_0 (G := tw_E (tw_zB z) (tw_zC z) σ) hF)
  refine c_aload_n (z := tw_cz z 0 0) X dX1_init_0 rfl 0 rfl ?_
  refine c_obj (z := tw_cz z 0 0) X dX1_init_1 _ tw_u155 (List.mem_of_getElem? tw_u121) (List.mem_of_getElem? tw_u122) (by show 1 ≤ (tw_zR z).frames; rw [eR]; exact Nat.le_of_ble_eq_true rfl) (by show 20 ≤ (tw_zR z).locals; rw [eR]; exact Nat.le_of_ble_eq_true rfl) (Nat.le_of_ble_eq_true rfl) ?_
  refine c_aload_n (z := tw_cz z 0 0) X dX1_init_4 rfl 0 rfl ?_
  refine k_new (ci := 7) (T := TX7) (N := 1) (fs := [.null]) (mm := (k + 1)) (c := 0) (s := 0) (c' := 1) (s' := 1) X dX1_init_5 _ tw_u156 tw_u141 tw_u91 tw_in7 tyX7 tyX7_ok rfl tw_df7 (by rw [eR]; exact Nat.le_of_ble_eq_true rfl) (by rw [eR]; exact Nat.le_of_ble_eq_true rfl) rfl rfl ?_
  refine c_dup (z := tw_cz z 1 1) X dX1_init_8 rfl ?_
  refine c_iconst (z := tw_cz z 1 1) X dX1_init_9 (v := (4 : Int32)) (by decide) ?_
  refine k_init (rm := { frames := 1, cells := 1, slots := 4, locals := 20 }) (c := 1) (s := 1) (c' := 2) (s' := 5) (m := (k + 1)) (m' := (k + 3)) (As := [.int 4]) X hAK hz (by omega) dX1_init_10 (tw_i_X7 (σ := σ) (N := 4) (tw_kd1_1 hk) (tw_ln1_2 hk) rfl (by decide) (fun q a b => h0 q (by omega) (by omega)) (va_up_self _ _ _)) tw_y_X7_init tw_u143 rfl _ tw_u157 rfl (by rw [eR]; exact Nat.le_of_ble_eq_true rfl) (by rw [eR]; exact Nat.le_of_ble_eq_true rfl) (by rw [eR]; exact Nat.le_of_ble_eq_true rfl) (by rw [eR]; exact Nat.le_of_ble_eq_true rfl) rfl rfl (Nat.le_of_ble_eq_true rfl) rfl (by omega) (by omega) ?_
  refine k_putF (ci := 1) (T := TX1) (f := 1) (fs' := [.int 0, .ref (tw_zB z + (k + 1)), .null, .null, .null, .null, .null, .null, .null, .null]) (ty := .object "TreasureWalk$Row") X hnm hz (by omega) dX1_init_13 _ tw_u163 tw_in1 tyX1 tyX1_ok nmX1 rfl (by decide) rfl rfl (by decide +kernel) rfl rfl (by omega) (Nat.le_of_ble_eq_true rfl) rfl ?_
  refine c_aload_n (z := tw_cz z 2 5) X dX1_init_16 rfl 0 rfl ?_
  refine k_new (ci := 7) (T := TX7) (N := 1) (fs := [.null]) (mm := (k + 3)) (c := 2) (s := 5) (c' := 3) (s' := 6) X dX1_init_17 _ tw_u156 tw_u141 tw_u91 tw_in7 tyX7 tyX7_ok rfl tw_df7 (by rw [eR]; exact Nat.le_of_ble_eq_true rfl) (by rw [eR]; exact Nat.le_of_ble_eq_true rfl) rfl rfl ?_
  refine c_dup (z := tw_cz z 3 6) X dX1_init_20 rfl ?_
  refine c_iconst (z := tw_cz z 3 6) X dX1_init_21 (v := (4 : Int32)) (by decide) ?_
  refine k_init (rm := { frames := 1, cells := 1, slots := 4, locals := 20 }) (c := 3) (s := 6) (c' := 4) (s' := 10) (m := (k + 3)) (m' := (k + 5)) (As := [.int 4]) X hAK hz (by omega) dX1_init_22 (tw_i_X7 (σ := σ) (N := 4) (tw_kd1_3 hk) (tw_ln1_4 hk) rfl (by decide) (fun q a b => h0 q (by omega) (by omega)) (va_up_self _ _ _)) tw_y_X7_init tw_u143 rfl _ tw_u157 rfl (by rw [eR]; exact Nat.le_of_ble_eq_true rfl) (by rw [eR]; exact Nat.le_of_ble_eq_true rfl) (by rw [eR]; exact Nat.le_of_ble_eq_true rfl) (by rw [eR]; exact Nat.le_of_ble_eq_true rfl) rfl rfl (Nat.le_of_ble_eq_true rfl) rfl (by omega) (by omega) ?_
  refine k_putF (ci := 1) (T := TX1) (f := 2) (fs' := [.int 0, .ref (tw_zB z + (k + 1)), .ref (tw_zB z + (k + 3)), .null, .null, .null, .null, .null, .null, .null]) (ty := .object "TreasureWalk$Row") X hnm hz (by omega) dX1_init_25 _ tw_u166 tw_in1 tyX1 tyX1_ok nmX1 rfl (by decide) rfl rfl (by decide +kernel) rfl rfl (by omega) (Nat.le_of_ble_eq_true rfl) rfl ?_
  refine c_aload_n (z := tw_cz z 4 10) X dX1_init_28 rfl 0 rfl ?_
  refine k_new (ci := 7) (T := TX7) (N := 1) (fs := [.null]) (mm := (k + 5)) (c := 4) (s := 10) (c' := 5) (s' := 11) X dX1_init_29 _ tw_u156 tw_u141 tw_u91 tw_in7 tyX7 tyX7_ok rfl tw_df7 (by rw [eR]; exact Nat.le_of_ble_eq_true rfl) (by rw [eR]; exact Nat.le_of_ble_eq_true rfl) rfl rfl ?_
  refine c_dup (z := tw_cz z 5 11) X dX1_init_32 rfl ?_
  refine c_bipush (z := tw_cz z 5 11) X dX1_init_33 (v := (32 : Int32)) (by decide) ?_
  refine k_init (rm := { frames := 1, cells := 1, slots := 32, locals := 20 }) (c := 5) (s := 11) (c' := 6) (s' := 43) (m := (k + 5)) (m' := (k + 7)) (As := [.int 32]) X hAK hz (by omega) dX1_init_35 (tw_i_X7 (σ := σ) (N := 32) (tw_kd1_5 hk) (tw_ln1_6 hk) rfl (by decide) (fun q a b => h0 q (by omega) (by omega)) (va_up_self _ _ _)) tw_y_X7_init tw_u143 rfl _ tw_u157 rfl (by rw [eR]; exact Nat.le_of_ble_eq_true rfl) (by rw [eR]; exact Nat.le_of_ble_eq_true rfl) (by rw [eR]; exact Nat.le_of_ble_eq_true rfl) (by rw [eR]; exact Nat.le_of_ble_eq_true rfl) rfl rfl (Nat.le_of_ble_eq_true rfl) rfl (by omega) (by omega) ?_
  refine k_putF (ci := 1) (T := TX1) (f := 3) (fs' := [.int 0, .ref (tw_zB z + (k + 1)), .ref (tw_zB z + (k + 3)), .ref (tw_zB z + (k + 5)), .null, .null, .null, .null, .null, .null]) (ty := .object "TreasureWalk$Row") X hnm hz (by omega) dX1_init_38 _ tw_u168 tw_in1 tyX1 tyX1_ok nmX1 rfl (by decide) rfl rfl (by decide +kernel) rfl rfl (by omega) (Nat.le_of_ble_eq_true rfl) rfl ?_
  refine c_aload_n (z := tw_cz z 6 43) X dX1_init_41 rfl 0 rfl ?_
  refine k_new (ci := 7) (T := TX7) (N := 1) (fs := [.null]) (mm := (k + 7)) (c := 6) (s := 43) (c' := 7) (s' := 44) X dX1_init_42 _ tw_u156 tw_u141 tw_u91 tw_in7 tyX7 tyX7_ok rfl tw_df7 (by rw [eR]; exact Nat.le_of_ble_eq_true rfl) (by rw [eR]; exact Nat.le_of_ble_eq_true rfl) rfl rfl ?_
  refine c_dup (z := tw_cz z 7 44) X dX1_init_45 rfl ?_
  refine c_iconst (z := tw_cz z 7 44) X dX1_init_46 (v := (4 : Int32)) (by decide) ?_
  refine k_init (rm := { frames := 1, cells := 1, slots := 4, locals := 20 }) (c := 7) (s := 44) (c' := 8) (s' := 48) (m := (k + 7)) (m' := (k + 9)) (As := [.int 4]) X hAK hz (by omega) dX1_init_47 (tw_i_X7 (σ := σ) (N := 4) (tw_kd1_7 hk) (tw_ln1_8 hk) rfl (by decide) (fun q a b => h0 q (by omega) (by omega)) (va_up_self _ _ _)) tw_y_X7_init tw_u143 rfl _ tw_u157 rfl (by rw [eR]; exact Nat.le_of_ble_eq_true rfl) (by rw [eR]; exact Nat.le_of_ble_eq_true rfl) (by rw [eR]; exact Nat.le_of_ble_eq_true rfl) (by rw [eR]; exact Nat.le_of_ble_eq_true rfl) rfl rfl (Nat.le_of_ble_eq_true rfl) rfl (by omega) (by omega) ?_
  refine k_putF (ci := 1) (T := TX1) (f := 4) (fs' := [.int 0, .ref (tw_zB z + (k + 1)), .ref (tw_zB z + (k + 3)), .ref (tw_zB z + (k + 5)), .ref (tw_zB z + (k + 7)), .null, .null, .null, .null, .null]) (ty := .object "TreasureWalk$Row") X hnm hz (by omega) dX1_init_50 _ tw_u169 tw_in1 tyX1 tyX1_ok nmX1 rfl (by decide) rfl rfl (by decide +kernel) rfl rfl (by omega) (Nat.le_of_ble_eq_true rfl) rfl ?_
  refine c_aload_n (z := tw_cz z 8 48) X dX1_init_53 rfl 0 rfl ?_
  refine k_new (ci := 7) (T := TX7) (N := 1) (fs := [.null]) (mm := (k + 9)) (c := 8) (s := 48) (c' := 9) (s' := 49) X dX1_init_54 _ tw_u156 tw_u141 tw_u91 tw_in7 tyX7 tyX7_ok rfl tw_df7 (by rw [eR]; exact Nat.le_of_ble_eq_true rfl) (by rw [eR]; exact Nat.le_of_ble_eq_true rfl) rfl rfl ?_
  refine c_dup (z := tw_cz z 9 49) X dX1_init_57 rfl ?_
  refine c_bipush (z := tw_cz z 9 49) X dX1_init_58 (v := (32 : Int32)) (by decide) ?_
  refine k_init (rm := { frames := 1, cells := 1, slots := 32, locals := 20 }) (c := 9) (s := 49) (c' := 10) (s' := 81) (m := (k + 9)) (m' := (k + 11)) (As := [.int 32]) X hAK hz (by omega) dX1_init_60 (tw_i_X7 (σ := σ) (N := 32) (tw_kd1_9 hk) (tw_ln1_10 hk) rfl (by decide) (fun q a b => h0 q (by omega) (by omega)) (va_up_self _ _ _)) tw_y_X7_init tw_u143 rfl _ tw_u157 rfl (by rw [eR]; exact Nat.le_of_ble_eq_true rfl) (by rw [eR]; exact Nat.le_of_ble_eq_true rfl) (by rw [eR]; exact Nat.le_of_ble_eq_true rfl) (by rw [eR]; exact Nat.le_of_ble_eq_true rfl) rfl rfl (Nat.le_of_ble_eq_true rfl) rfl (by omega) (by omega) ?_
  refine k_putF (ci := 1) (T := TX1) (f := 5) (fs' := [.int 0, .ref (tw_zB z + (k + 1)), .ref (tw_zB z + (k + 3)), .ref (tw_zB z + (k + 5)), .ref (tw_zB z + (k + 7)), .ref (tw_zB z + (k + 9)), .null, .null, .null, .null]) (ty := .object "TreasureWalk$Row") X hnm hz (by omega) dX1_init_63 _ tw_u173 tw_in1 tyX1 tyX1_ok nmX1 rfl (by decide) rfl rfl (by decide +kernel) rfl rfl (by omega) (Nat.le_of_ble_eq_true rfl) rfl ?_
  refine c_aload_n (z := tw_cz z 10 81) X dX1_init_66 rfl 0 rfl ?_
  refine k_new (ci := 7) (T := TX7) (N := 1) (fs := [.null]) (mm := (k + 11)) (c := 10) (s := 81) (c' := 11) (s' := 82) X dX1_init_67 _ tw_u156 tw_u141 tw_u91 tw_in7 tyX7 tyX7_ok rfl tw_df7 (by rw [eR]; exact Nat.le_of_ble_eq_true rfl) (by rw [eR]; exact Nat.le_of_ble_eq_true rfl) rfl rfl ?_
  refine c_dup (z := tw_cz z 11 82) X dX1_init_70 rfl ?_
  refine c_bipush (z := tw_cz z 11 82) X dX1_init_71 (v := (32 : Int32)) (by decide) ?_
  refine k_init (rm := { frames := 1, cells := 1, slots := 32, locals := 20 }) (c := 11) (s := 82) (c' := 12) (s' := 114) (m := (k + 11)) (m' := (k + 13)) (As := [.int 32]) X hAK hz (by omega) dX1_init_73 (tw_i_X7 (σ := σ) (N := 32) (tw_kd1_11 hk) (tw_ln1_12 hk) rfl (by decide) (fun q a b => h0 q (by omega) (by omega)) (va_up_self _ _ _)) tw_y_X7_init tw_u143 rfl _ tw_u157 rfl (by rw [eR]; exact Nat.le_of_ble_eq_true rfl) (by rw [eR]; exact Nat.le_of_ble_eq_true rfl) (by rw [eR]; exact Nat.le_of_ble_eq_true rfl) (by rw [eR]; exact Nat.le_of_ble_eq_true rfl) rfl rfl (Nat.le_of_ble_eq_true rfl) rfl (by omega) (by omega) ?_
  refine k_putF (ci := 1) (T := TX1) (f := 6) (fs' := [.int 0, .ref (tw_zB z + (k + 1)), .ref (tw_zB z + (k + 3)), .ref (tw_zB z + (k + 5)), .ref (tw_zB z + (k + 7)), .ref (tw_zB z + (k + 9)), .ref (tw_zB z + (k + 11)), .null, .null, .null]) (ty := .object "TreasureWalk$Row") X hnm hz (by omega) dX1_init_76 _ tw_u176 tw_in1 tyX1 tyX1_ok nmX1 rfl (by decide) rfl rfl (by decide +kernel) rfl rfl (by omega) (Nat.le_of_ble_eq_true rfl) rfl ?_
  refine c_aload_n (z := tw_cz z 12 114) X dX1_init_79 rfl 0 rfl ?_
  refine k_new (ci := 7) (T := TX7) (N := 1) (fs := [.null]) (mm := (k + 13)) (c := 12) (s := 114) (c' := 13) (s' := 115) X dX1_init_80 _ tw_u156 tw_u141 tw_u91 tw_in7 tyX7 tyX7_ok rfl tw_df7 (by rw [eR]; exact Nat.le_of_ble_eq_true rfl) (by rw [eR]; exact Nat.le_of_ble_eq_true rfl) rfl rfl ?_
  refine c_dup (z := tw_cz z 13 115) X dX1_init_83 rfl ?_
  refine c_bipush (z := tw_cz z 13 115) X dX1_init_84 (v := (32 : Int32)) (by decide) ?_
  refine k_init (rm := { frames := 1, cells := 1, slots := 32, locals := 20 }) (c := 13) (s := 115) (c' := 14) (s' := 147) (m := (k + 13)) (m' := (k + 15)) (As := [.int 32]) X hAK hz (by omega) dX1_init_86 (tw_i_X7 (σ := σ) (N := 32) (tw_kd1_13 hk) (tw_ln1_14 hk) rfl (by decide) (fun q a b => h0 q (by omega) (by omega)) (va_up_self _ _ _)) tw_y_X7_init tw_u143 rfl _ tw_u157 rfl (by rw [eR]; exact Nat.le_of_ble_eq_true rfl) (by rw [eR]; exact Nat.le_of_ble_eq_true rfl) (by rw [eR]; exact Nat.le_of_ble_eq_true rfl) (by rw [eR]; exact Nat.le_of_ble_eq_true rfl) rfl rfl (Nat.le_of_ble_eq_true rfl) rfl (by omega) (by omega) ?_
  refine k_putF (ci := 1) (T := TX1) (f := 7) (fs' := [.int 0, .ref (tw_zB z + (k + 1)), .ref (tw_zB z + (k + 3)), .ref (tw_zB z + (k + 5)), .ref (tw_zB z + (k + 7)), .ref (tw_zB z + (k + 9)), .ref (tw_zB z + (k + 11)), .ref (tw_zB z + (k + 13)), .null, .null]) (ty := .object "TreasureWalk$Row") X hnm hz (by omega) dX1_init_89 _ tw_u179 tw_in1 tyX1 tyX1_ok nmX1 rfl (by decide) rfl rfl (by decide +kernel) rfl rfl (by omega) (Nat.le_of_ble_eq_true rfl) rfl ?_
  refine c_aload_n (z := tw_cz z 14 147) X dX1_init_92 rfl 0 rfl ?_
  refine k_new (ci := 7) (T := TX7) (N := 1) (fs := [.null]) (mm := (k + 15)) (c := 14) (s := 147) (c' := 15) (s' := 148) X dX1_init_93 _ tw_u156 tw_u141 tw_u91 tw_in7 tyX7 tyX7_ok rfl tw_df7 (by rw [eR]; exact Nat.le_of_ble_eq_true rfl) (by rw [eR]; exact Nat.le_of_ble_eq_true rfl) rfl rfl ?_
  refine c_dup (z := tw_cz z 15 148) X dX1_init_96 rfl ?_
  refine c_bipush (z := tw_cz z 15 148) X dX1_init_97 (v := (32 : Int32)) (by decide) ?_
  refine k_init (rm := { frames := 1, cells := 1, slots := 32, locals := 20 }) (c := 15) (s := 148) (c' := 16) (s' := 180) (m := (k + 15)) (m' := (k + 17)) (As := [.int 32]) X hAK hz (by omega) dX1_init_99 (tw_i_X7 (σ := σ) (N := 32) (tw_kd1_15 hk) (tw_ln1_16 hk) rfl (by decide) (fun q a b => h0 q (by omega) (by omega)) (va_up_self _ _ _)) tw_y_X7_init tw_u143 rfl _ tw_u157 rfl (by rw [eR]; exact Nat.le_of_ble_eq_true rfl) (by rw [eR]; exact Nat.le_of_ble_eq_true rfl) (by rw [eR]; exact Nat.le_of_ble_eq_true rfl) (by rw [eR]; exact Nat.le_of_ble_eq_true rfl) rfl rfl (Nat.le_of_ble_eq_true rfl) rfl (by omega) (by omega) ?_
  refine k_putF (ci := 1) (T := TX1) (f := 8) (fs' := [.int 0, .ref (tw_zB z + (k + 1)), .ref (tw_zB z + (k + 3)), .ref (tw_zB z + (k + 5)), .ref (tw_zB z + (k + 7)), .ref (tw_zB z + (k + 9)), .ref (tw_zB z + (k + 11)), .ref (tw_zB z + (k + 13)), .ref (tw_zB z + (k + 15)), .null]) (ty := .object "TreasureWalk$Row") X hnm hz (by omega) dX1_init_102 _ tw_u182 tw_in1 tyX1 tyX1_ok nmX1 rfl (by decide) rfl rfl (by decide +kernel) rfl rfl (by omega) (Nat.le_of_ble_eq_true rfl) rfl ?_
  refine c_aload_n (z := tw_cz z 16 180) X dX1_init_105 rfl 0 rfl ?_
  refine k_new (ci := 7) (T := TX7) (N := 1) (fs := [.null]) (mm := (k + 17)) (c := 16) (s := 180) (c' := 17) (s' := 181) X dX1_init_106 _ tw_u156 tw_u141 tw_u91 tw_in7 tyX7 tyX7_ok rfl tw_df7 (by rw [eR]; exact Nat.le_of_ble_eq_true rfl) (by rw [eR]; exact Nat.le_of_ble_eq_true rfl) rfl rfl ?_
  refine c_dup (z := tw_cz z 17 181) X dX1_init_109 rfl ?_
  refine c_bipush (z := tw_cz z 17 181) X dX1_init_110 (v := (32 : Int32)) (by decide) ?_
  refine k_init (rm := { frames := 1, cells := 1, slots := 32, locals := 20 }) (c := 17) (s := 181) (c' := 18) (s' := 213) (m := (k + 17)) (m' := (k + 19)) (As := [.int 32]) X hAK hz (by omega) dX1_init_112 (tw_i_X7 (σ := σ) (N := 32) (tw_kd1_17 hk) (tw_ln1_18 hk) rfl (by decide) (fun q a b => h0 q (by omega) (by omega)) (va_up_self _ _ _)) tw_y_X7_init tw_u143 rfl _ tw_u157 rfl (by rw [eR]; exact Nat.le_of_ble_eq_true rfl) (by rw [eR]; exact Nat.le_of_ble_eq_true rfl) (by rw [eR]; exact Nat.le_of_ble_eq_true rfl) (by rw [eR]; exact Nat.le_of_ble_eq_true rfl) rfl rfl (Nat.le_of_ble_eq_true rfl) rfl (by omega) (by omega) ?_
  refine k_putF (ci := 1) (T := TX1) (f := 9) (fs' := [.int 0, .ref (tw_zB z + (k + 1)), .ref (tw_zB z + (k + 3)), .ref (tw_zB z + (k + 5)), .ref (tw_zB z + (k + 7)), .ref (tw_zB z + (k + 9)), .ref (tw_zB z + (k + 11)), .ref (tw_zB z + (k + 13)), .ref (tw_zB z + (k + 15)), .ref (tw_zB z + (k + 17))]) (ty := .object "TreasureWalk$Row") X hnm hz (by omega) dX1_init_115 _ tw_u185 tw_in1 tyX1 tyX1_ok nmX1 rfl (by decide) rfl rfl (by decide +kernel) rfl rfl (by omega) (Nat.le_of_ble_eq_true rfl) rfl ?_
  exact k_ret dX1_init_118 hQ rfl rfl (tw_cw_end (by omega) (by rw [tw_E1 hk]; simp [tw_fs1, h0 k (by omega) (by omega)]))
set_option maxRecDepth 100000 in
set_option maxHeartbeats 4000000 in
theorem tw_i_X2 {l : Launch} {B : Nat} {D : va_G} {C : Nat → ClassId} {S : Nat → Nat} {σ : tw_Sg} {F : Nat → va_E} {k : Nat} (hk : tw_kd k = 2) (h0 : ∀ q, k ≤ q → q < (k + 32) → σ q = fun _ => 0) (hF : F k = .inr (2, [.int 0, .int 0, .null, .null, .null, .int 0, .null, .null, .null, .null, .int 0, .int 0, .int 0, .int 0])) : tw_MetC l B D C S yX2_init cX2_init 1 { frames := 3, cells := 31, slots := 305, locals := 61 } [.ref (B + k)] F (k + 1) (tw_fin (tw_E B C σ) F k (k + 32)) (k + 32) := by
  refine tw_metOfC (by decide +kernel) (Nat.le_of_ble_eq_true rfl) ?_
  intro z el eB eD eC eS eR ec es hz hAK hnm X hret hQ
  subst el eB eD eC eS
  have X : tw_X z cX2_init "TreasureWalk$Data" 1 := X
  show tw_Rc z F (k + 1) 0 [(0, .ref (tw_zB z + k))] []
  refine tw_Rc.z0 ec es ?_
  refine tw_Rc.cong ?_ (tw_cw_0 (G := tw_E (tw_zB z) (tw_zC z) σ) hF)
  refine c_aload_n (z := tw_cz z 0 0) X dX2_init_0 rfl 0 rfl ?_
  refine c_obj (z := tw_cz z 0 0) X dX2_init_1 _ tw_u128 (List.mem_of_getElem? tw_u121) (List.mem_of_getElem? tw_u122) (by show 1 ≤ (tw_zR z).frames; rw [eR]; exact Nat.le_of_ble_eq_true rfl) (by show 20 ≤ (tw_zR z).locals; rw [eR]; exact Nat.le_of_ble_eq_true rfl) (Nat.le_of_ble_eq_true rfl) ?_
  refine c_aload_n (z := tw_cz z 0 0) X dX2_init_4 rfl 0 rfl ?_
  refine k_new (ci := 0) (T := TX0) (N := 1) (fs := [.null]) (mm := (k + 1)) (c := 0) (s := 0) (c' := 1) (s' := 1) X dX2_init_5 _ tw_u129 tw_u130 tw_u90 tw_in0 tyX0 tyX0_ok rfl tw_df0 (by rw [eR]; exact Nat.le_of_ble_eq_true rfl) (by rw [eR]; exact Nat.le_of_ble_eq_true rfl) rfl rfl ?_
  refine c_dup (z := tw_cz z 1 1) X dX2_init_8 rfl ?_
  refine k_initN (rm := { frames := 1, cells := 1, slots := 22, locals := 20 }) (c := 1) (s := 1) (c' := 2) (s' := 23) (m := (k + 1)) (m' := (k + 3)) (As := []) X hAK hz (by omega) dX2_init_9 (tw_i_X0 (σ := σ) (tw_kd2_1 hk) (fun q a b => h0 q (by omega) (by omega)) (va_up_self _ _ _)) tw_y_X0_init tw_u132 rfl _ tw_u131 rfl (by rw [eR]; exact Nat.le_of_ble_eq_true rfl) (by rw [eR]; exact Nat.le_of_ble_eq_true rfl) (by rw [eR]; exact Nat.le_of_ble_eq_true rfl) (by rw [eR]; exact Nat.le_of_ble_eq_true rfl) rfl rfl (Nat.le_of_ble_eq_true rfl) rfl (by omega) (by omega) ?_
  refine k_putF (ci := 2) (T := TX2) (f := 2) (fs' := [.int 0, .int 0, .ref (tw_zB z + (k + 1)), .null, .null, .int 0, .null, .null, .null, .null, .int 0, .int 0, .int 0, .int 0]) (ty := .object "TreasureWalk$Cells") X hnm hz (by omega) dX2_init_12 _ tw_u215 tw_in2 tyX2 tyX2_ok nmX2 rfl (by decide) rfl rfl (by decide +kernel) rfl rfl (by omega) (Nat.le_of_ble_eq_true rfl) rfl ?_
  refine c_aload_n (z := tw_cz z 2 23) X dX2_init_15 rfl 0 rfl ?_
  refine k_new (ci := 0) (T := TX0) (N := 1) (fs := [.null]) (mm := (k + 3)) (c := 2) (s := 23) (c' := 3) (s' := 24) X dX2_init_16 _ tw_u129 tw_u130 tw_u90 tw_in0 tyX0 tyX0_ok rfl tw_df0 (by rw [eR]; exact Nat.le_of_ble_eq_true rfl) (by rw [eR]; exact Nat.le_of_ble_eq_true rfl) rfl rfl ?_
  refine c_dup (z := tw_cz z 3 24) X dX2_init_19 rfl ?_
  refine k_initN (rm := { frames := 1, cells := 1, slots := 22, locals := 20 }) (c := 3) (s := 24) (c' := 4) (s' := 46) (m := (k + 3)) (m' := (k + 5)) (As := []) X hAK hz (by omega) dX2_init_20 (tw_i_X0 (σ := σ) (tw_kd2_3 hk) (fun q a b => h0 q (by omega) (by omega)) (va_up_self _ _ _)) tw_y_X0_init tw_u132 rfl _ tw_u131 rfl (by rw [eR]; exact Nat.le_of_ble_eq_true rfl) (by rw [eR]; exact Nat.le_of_ble_eq_true rfl) (by rw [eR]; exact Nat.le_of_ble_eq_true rfl) (by rw [eR]; exact Nat.le_of_ble_eq_true rfl) rfl rfl (Nat.le_of_ble_eq_true rfl) rfl (by omega) (by omega) ?_
  refine k_putF (ci := 2) (T := TX2) (f := 3) (fs' := [.int 0, .int 0, .ref (tw_zB z + (k + 1)), .ref (tw_zB z + (k + 3)), .null, .int 0, .null, .null, .null, .null, .int 0, .int 0, .int 0, .int 0]) (ty := .object "TreasureWalk$Cells") X hnm hz (by omega) dX2_init_23 _ tw_u220 tw_in2 tyX2 tyX2_ok nmX2 rfl (by decide) rfl rfl (by decide +kernel) rfl rfl (by omega) (Nat.le_of_ble_eq_true rfl) rfl ?_
  refine c_aload_n (z := tw_cz z 4 46) X dX2_init_26 rfl 0 rfl ?_
  refine k_new (ci := 7) (T := TX7) (N := 1) (fs := [.null]) (mm := (k + 5)) (c := 4) (s := 46) (c' := 5) (s' := 47) X dX2_init_27 _ tw_u140 tw_u141 tw_u91 tw_in7 tyX7 tyX7_ok rfl tw_df7 (by rw [eR]; exact Nat.le_of_ble_eq_true rfl) (by rw [eR]; exact Nat.le_of_ble_eq_true rfl) rfl rfl ?_
  refine c_dup (z := tw_cz z 5 47) X dX2_init_30 rfl ?_
  refine c_bipush (z := tw_cz z 5 47) X dX2_init_31 (v := (8 : Int32)) (by decide) ?_
  refine k_init (rm := { frames := 1, cells := 1, slots := 8, locals := 20 }) (c := 5) (s := 47) (c' := 6) (s' := 55) (m := (k + 5)) (m' := (k + 7)) (As := [.int 8]) X hAK hz (by omega) dX2_init_33 (tw_i_X7 (σ := σ) (N := 8) (tw_kd2_5 hk) (tw_ln2_6 hk) rfl (by decide) (fun q a b => h0 q (by omega) (by omega)) (va_up_self _ _ _)) tw_y_X7_init tw_u143 rfl _ tw_u142 rfl (by rw [eR]; exact Nat.le_of_ble_eq_true rfl) (by rw [eR]; exact Nat.le_of_ble_eq_true rfl) (by rw [eR]; exact Nat.le_of_ble_eq_true rfl) (by rw [eR]; exact Nat.le_of_ble_eq_true rfl) rfl rfl (Nat.le_of_ble_eq_true rfl) rfl (by omega) (by omega) ?_
  refine k_putF (ci := 2) (T := TX2) (f := 4) (fs' := [.int 0, .int 0, .ref (tw_zB z + (k + 1)), .ref (tw_zB z + (k + 3)), .ref (tw_zB z + (k + 5)), .int 0, .null, .null, .null, .null, .int 0, .int 0, .int 0, .int 0]) (ty := .object "TreasureWalk$Row") X hnm hz (by omega) dX2_init_36 _ tw_u223 tw_in2 tyX2 tyX2_ok nmX2 rfl (by decide) rfl rfl (by decide +kernel) rfl rfl (by omega) (Nat.le_of_ble_eq_true rfl) rfl ?_
  refine c_aload_n (z := tw_cz z 6 55) X dX2_init_39 rfl 0 rfl ?_
  refine k_new (ci := 7) (T := TX7) (N := 1) (fs := [.null]) (mm := (k + 7)) (c := 6) (s := 55) (c' := 7) (s' := 56) X dX2_init_40 _ tw_u140 tw_u141 tw_u91 tw_in7 tyX7 tyX7_ok rfl tw_df7 (by rw [eR]; exact Nat.le_of_ble_eq_true rfl) (by rw [eR]; exact Nat.le_of_ble_eq_true rfl) rfl rfl ?_
  refine c_dup (z := tw_cz z 7 56) X dX2_init_43 rfl ?_
  refine c_bipush (z := tw_cz z 7 56) X dX2_init_44 (v := (8 : Int32)) (by decide) ?_
  refine k_init (rm := { frames := 1, cells := 1, slots := 8, locals := 20 }) (c := 7) (s := 56) (c' := 8) (s' := 64) (m := (k + 7)) (m' := (k + 9)) (As := [.int 8]) X hAK hz (by omega) dX2_init_46 (tw_i_X7 (σ := σ) (N := 8) (tw_kd2_7 hk) (tw_ln2_8 hk) rfl (by decide) (fun q a b => h0 q (by omega) (by omega)) (va_up_self _ _ _)) tw_y_X7_init tw_u143 rfl _ tw_u142 rfl (by rw [eR]; exact Nat.le_of_ble_eq_true rfl) (by rw [eR]; exact Nat.le_of_ble_eq_true rfl) (by rw [eR]; exact Nat.le_of_ble_eq_true rfl) (by rw [eR]; exact Nat.le_of_ble_eq_true rfl) rfl rfl (Nat.le_of_ble_eq_true rfl) rfl (by omega) (by omega) ?_
  refine k_putF (ci := 2) (T := TX2) (f := 6) (fs' := [.int 0, .int 0, .ref (tw_zB z + (k + 1)), .ref (tw_zB z + (k + 3)), .ref (tw_zB z + (k + 5)), .int 0, .ref (tw_zB z + (k + 7)), .null, .null, .null, .int 0, .int 0, .int 0, .int 0]) (ty := .object "TreasureWalk$Row") X hnm hz (by omega) dX2_init_49 _ tw_u230 tw_in2 tyX2 tyX2_ok nmX2 rfl (by decide) rfl rfl (by decide +kernel) rfl rfl (by omega) (Nat.le_of_ble_eq_true rfl) rfl ?_
  refine c_aload_n (z := tw_cz z 8 64) X dX2_init_52 rfl 0 rfl ?_
  refine k_new (ci := 7) (T := TX7) (N := 1) (fs := [.null]) (mm := (k + 9)) (c := 8) (s := 64) (c' := 9) (s' := 65) X dX2_init_53 _ tw_u140 tw_u141 tw_u91 tw_in7 tyX7 tyX7_ok rfl tw_df7 (by rw [eR]; exact Nat.le_of_ble_eq_true rfl) (by rw [eR]; exact Nat.le_of_ble_eq_true rfl) rfl rfl ?_
  refine c_dup (z := tw_cz z 9 65) X dX2_init_56 rfl ?_
  refine c_bipush (z := tw_cz z 9 65) X dX2_init_57 (v := (8 : Int32)) (by decide) ?_
  refine k_init (rm := { frames := 1, cells := 1, slots := 8, locals := 20 }) (c := 9) (s := 65) (c' := 10) (s' := 73) (m := (k + 9)) (m' := (k + 11)) (As := [.int 8]) X hAK hz (by omega) dX2_init_59 (tw_i_X7 (σ := σ) (N := 8) (tw_kd2_9 hk) (tw_ln2_10 hk) rfl (by decide) (fun q a b => h0 q (by omega) (by omega)) (va_up_self _ _ _)) tw_y_X7_init tw_u143 rfl _ tw_u142 rfl (by rw [eR]; exact Nat.le_of_ble_eq_true rfl) (by rw [eR]; exact Nat.le_of_ble_eq_true rfl) (by rw [eR]; exact Nat.le_of_ble_eq_true rfl) (by rw [eR]; exact Nat.le_of_ble_eq_true rfl) rfl rfl (Nat.le_of_ble_eq_true rfl) rfl (by omega) (by omega) ?_
  refine k_putF (ci := 2) (T := TX2) (f := 7) (fs' := [.int 0, .int 0, .ref (tw_zB z + (k + 1)), .ref (tw_zB z + (k + 3)), .ref (tw_zB z + (k + 5)), .int 0, .ref (tw_zB z + (k + 7)), .ref (tw_zB z + (k + 9)), .null, .null, .int 0, .int 0, .int 0, .int 0]) (ty := .object "TreasureWalk$Row") X hnm hz (by omega) dX2_init_62 _ tw_u232 tw_in2 tyX2 tyX2_ok nmX2 rfl (by decide) rfl rfl (by decide +kernel) rfl rfl (by omega) (Nat.le_of_ble_eq_true rfl) rfl ?_
  refine c_aload_n (z := tw_cz z 10 73) X dX2_init_65 rfl 0 rfl ?_
  refine k_new (ci := 7) (T := TX7) (N := 1) (fs := [.null]) (mm := (k + 11)) (c := 10) (s := 73) (c' := 11) (s' := 74) X dX2_init_66 _ tw_u140 tw_u141 tw_u91 tw_in7 tyX7 tyX7_ok rfl tw_df7 (by rw [eR]; exact Nat.le_of_ble_eq_true rfl) (by rw [eR]; exact Nat.le_of_ble_eq_true rfl) rfl rfl ?_
  refine c_dup (z := tw_cz z 11 74) X dX2_init_69 rfl ?_
  refine c_bipush (z := tw_cz z 11 74) X dX2_init_70 (v := (8 : Int32)) (by decide) ?_
  refine k_init (rm := { frames := 1, cells := 1, slots := 8, locals := 20 }) (c := 11) (s := 74) (c' := 12) (s' := 82) (m := (k + 11)) (m' := (k + 13)) (As := [.int 8]) X hAK hz (by omega) dX2_init_72 (tw_i_X7 (σ := σ) (N := 8) (tw_kd2_11 hk) (tw_ln2_12 hk) rfl (by decide) (fun q a b => h0 q (by omega) (by omega)) (va_up_self _ _ _)) tw_y_X7_init tw_u143 rfl _ tw_u142 rfl (by rw [eR]; exact Nat.le_of_ble_eq_true rfl) (by rw [eR]; exact Nat.le_of_ble_eq_true rfl) (by rw [eR]; exact Nat.le_of_ble_eq_true rfl) (by rw [eR]; exact Nat.le_of_ble_eq_true rfl) rfl rfl (Nat.le_of_ble_eq_true rfl) rfl (by omega) (by omega) ?_
  refine k_putF (ci := 2) (T := TX2) (f := 8) (fs' := [.int 0, .int 0, .ref (tw_zB z + (k + 1)), .ref (tw_zB z + (k + 3)), .ref (tw_zB z + (k + 5)), .int 0, .ref (tw_zB z + (k + 7)), .ref (tw_zB z + (k + 9)), .ref (tw_zB z + (k + 11)), .null, .int 0, .int 0, .int 0, .int 0]) (ty := .object "TreasureWalk$Row") X hnm hz (by omega) dX2_init_75 _ tw_u234 tw_in2 tyX2 tyX2_ok nmX2 rfl (by decide) rfl rfl (by decide +kernel) rfl rfl (by omega) (Nat.le_of_ble_eq_true rfl) rfl ?_
  refine c_aload_n (z := tw_cz z 12 82) X dX2_init_78 rfl 0 rfl ?_
  refine k_new (ci := 1) (T := TX1) (N := 10) (fs := [.int 0, .null, .null, .null, .null, .null, .null, .null, .null, .null]) (mm := (k + 13)) (c := 12) (s := 82) (c' := 13) (s' := 92) X dX2_init_79 _ tw_u150 tw_u151 tw_u92 tw_in1 tyX1 tyX1_ok rfl tw_df1 (by rw [eR]; exact Nat.le_of_ble_eq_true rfl) (by rw [eR]; exact Nat.le_of_ble_eq_true rfl) rfl rfl ?_
  refine c_dup (z := tw_cz z 13 92) X dX2_init_82 rfl ?_
  refine k_initN (rm := { frames := 2, cells := 18, slots := 213, locals := 41 }) (c := 13) (s := 92) (c' := 31) (s' := 305) (m := (k + 13)) (m' := (k + 32)) (As := []) X hAK hz (by omega) dX2_init_83 (tw_i_X1 (σ := σ) (tw_kd2_13 hk) (fun q a b => h0 q (by omega) (by omega)) (va_up_self _ _ _)) tw_y_X1_init tw_u153 rfl _ tw_u152 rfl (by rw [eR]; exact Nat.le_of_ble_eq_true rfl) (by rw [eR]; exact Nat.le_of_ble_eq_true rfl) (by rw [eR]; exact Nat.le_of_ble_eq_true rfl) (by rw [eR]; exact Nat.le_of_ble_eq_true rfl) rfl rfl (Nat.le_of_ble_eq_true rfl) rfl (by omega) (by omega) ?_
  refine k_putF (ci := 2) (T := TX2) (f := 9) (fs' := [.int 0, .int 0, .ref (tw_zB z + (k + 1)), .ref (tw_zB z + (k + 3)), .ref (tw_zB z + (k + 5)), .int 0, .ref (tw_zB z + (k + 7)), .ref (tw_zB z + (k + 9)), .ref (tw_zB z + (k + 11)), .ref (tw_zB z + (k + 13)), .int 0, .int 0, .int 0, .int 0]) (ty := .object "TreasureWalk$Clues") X hnm hz (by omega) dX2_init_86 _ tw_u237 tw_in2 tyX2 tyX2_ok nmX2 rfl (by decide) rfl rfl (by decide +kernel) rfl rfl (by omega) (Nat.le_of_ble_eq_true rfl) rfl ?_
  exact k_ret dX2_init_89 hQ rfl rfl (tw_cw_end (by omega) (by rw [tw_E2 hk]; simp [tw_fs2, h0 k (by omega) (by omega)]))
set_option maxRecDepth 100000 in
set_option maxHeartbeats 4000000 in
theorem tw_i_X3 {l : Launch} {B : Nat} {D : va_G} {C : Nat → ClassId} {S : Nat → Nat} {σ : tw_Sg} {F : Nat → va_E} (h0 : ∀ q, 135 ≤ q → q < 140 → σ q = fun _ => 0) (hF : F 135 = .inr (3, [.null, .null])) : tw_MetC l B D C S yX3_init cX3_init 1 { frames := 2, cells := 4, slots := 1106, locals := 41 } [.ref (B + 135)] F 136 (tw_fin (tw_E B C σ) F 135 140) 140 := by
  refine tw_metOfC (by decide +kernel) (Nat.le_of_ble_eq_true rfl) ?_
  intro z el eB eD eC eS eR ec es hz hAK hnm X hret hQ
  subst el eB eD eC eS
  have X : tw_X z cX3_init "TreasureWalk$Flood" 1 := X
  show tw_Rc z F 136 0 [(0, .ref (tw_zB z + 135))] []
  refine tw_Rc.z0 ec es ?_
  refine tw_Rc.cong ?_ (tw_cw_0 (G := tw_E (tw_zB z) (tw_zC z) σ) hF)
  refine c_aload_n (z := tw_cz z 0 0) X dX3_init_0 rfl 0 rfl ?_
  refine c_obj (z := tw_cz z 0 0) X dX3_init_1 _ tw_u359 (List.mem_of_getElem? tw_u121) (List.mem_of_getElem? tw_u122) (by show 1 ≤ (tw_zR z).frames; rw [eR]; exact Nat.le_of_ble_eq_true rfl) (by show 20 ≤ (tw_zR z).locals; rw [eR]; exact Nat.le_of_ble_eq_true rfl) (Nat.le_of_ble_eq_true rfl) ?_
  refine c_aload_n (z := tw_cz z 0 0) X dX3_init_4 rfl 0 rfl ?_
  refine k_new (ci := 7) (T := TX7) (N := 1) (fs := [.null]) (mm := 136) (c := 0) (s := 0) (c' := 1) (s' := 1) X dX3_init_5 _ tw_u360 tw_u141 tw_u91 tw_in7 tyX7 tyX7_ok rfl tw_df7 (by rw [eR]; exact Nat.le_of_ble_eq_true rfl) (by rw [eR]; exact Nat.le_of_ble_eq_true rfl) rfl rfl ?_
  refine c_dup (z := tw_cz z 1 1) X dX3_init_8 rfl ?_
  refine c_sipush (z := tw_cz z 1 1) X dX3_init_9 (v := (704 : Int32)) (by decide) ?_
  refine k_init (rm := { frames := 1, cells := 1, slots := 704, locals := 20 }) (c := 1) (s := 1) (c' := 2) (s' := 705) (m := 136) (m' := 138) (As := [.int 704]) X hAK hz (by omega) dX3_init_12 (tw_i_X7 (σ := σ) (N := 704) (by decide +kernel) (by decide +kernel) rfl (by decide) (fun q a b => h0 q (by omega) (by omega)) (va_up_self _ _ _)) tw_y_X7_init tw_u143 rfl _ tw_u361 rfl (by rw [eR]; exact Nat.le_of_ble_eq_true rfl) (by rw [eR]; exact Nat.le_of_ble_eq_true rfl) (by rw [eR]; exact Nat.le_of_ble_eq_true rfl) (by rw [eR]; exact Nat.le_of_ble_eq_true rfl) rfl rfl (Nat.le_of_ble_eq_true rfl) rfl (by omega) (by omega) ?_
  refine k_putF (ci := 3) (T := TX3) (f := 0) (fs' := [.ref (tw_zB z + 136), .null]) (ty := .object "TreasureWalk$Row") X hnm hz (by omega) dX3_init_15 _ tw_u362 tw_in3 tyX3 tyX3_ok nmX3 rfl (by decide) rfl rfl (by decide +kernel) rfl rfl (by omega) (Nat.le_of_ble_eq_true rfl) rfl ?_
  refine c_aload_n (z := tw_cz z 2 705) X dX3_init_18 rfl 0 rfl ?_
  refine k_new (ci := 7) (T := TX7) (N := 1) (fs := [.null]) (mm := 138) (c := 2) (s := 705) (c' := 3) (s' := 706) X dX3_init_19 _ tw_u360 tw_u141 tw_u91 tw_in7 tyX7 tyX7_ok rfl tw_df7 (by rw [eR]; exact Nat.le_of_ble_eq_true rfl) (by rw [eR]; exact Nat.le_of_ble_eq_true rfl) rfl rfl ?_
  refine c_dup (z := tw_cz z 3 706) X dX3_init_22 rfl ?_
  refine c_sipush (z := tw_cz z 3 706) X dX3_init_23 (v := (400 : Int32)) (by decide) ?_
  refine k_init (rm := { frames := 1, cells := 1, slots := 400, locals := 20 }) (c := 3) (s := 706) (c' := 4) (s' := 1106) (m := 138) (m' := 140) (As := [.int 400]) X hAK hz (by omega) dX3_init_26 (tw_i_X7 (σ := σ) (N := 400) (by decide +kernel) (by decide +kernel) rfl (by decide) (fun q a b => h0 q (by omega) (by omega)) (va_up_self _ _ _)) tw_y_X7_init tw_u143 rfl _ tw_u361 rfl (by rw [eR]; exact Nat.le_of_ble_eq_true rfl) (by rw [eR]; exact Nat.le_of_ble_eq_true rfl) (by rw [eR]; exact Nat.le_of_ble_eq_true rfl) (by rw [eR]; exact Nat.le_of_ble_eq_true rfl) rfl rfl (Nat.le_of_ble_eq_true rfl) rfl (by omega) (by omega) ?_
  refine k_putF (ci := 3) (T := TX3) (f := 1) (fs' := [.ref (tw_zB z + 136), .ref (tw_zB z + 138)]) (ty := .object "TreasureWalk$Row") X hnm hz (by omega) dX3_init_29 _ tw_u364 tw_in3 tyX3 tyX3_ok nmX3 rfl (by decide) rfl rfl (by decide +kernel) rfl rfl (by omega) (Nat.le_of_ble_eq_true rfl) rfl ?_
  exact k_ret dX3_init_32 hQ rfl rfl (tw_cw_end (by omega) (by rw [tw_E3 (by decide +kernel : tw_kd 135 = 3)]; simp [tw_fs3, h0 135 (by omega) (by omega)]))
set_option maxRecDepth 100000 in
set_option maxHeartbeats 4000000 in
theorem tw_i_X6 {l : Launch} {B : Nat} {D : va_G} {C : Nat → ClassId} {S : Nat → Nat} {σ : tw_Sg} {F : Nat → va_E} (h0 : ∀ q, 400 ≤ q → q < 435 → σ q = fun _ => 0) (hF : F 400 = .inr (6, [.null, .int 0, .null, .int 0, .int 0, .int 0, .int 0, .int 0, .int 0, .int 0, .int 0])) : tw_MetC l B D C S yX6_init cX6_init 1 { frames := 4, cells := 34, slots := 920, locals := 81 } [.ref (B + 400)] F 401 (tw_fin (tw_E B C σ) F 400 435) 435 := by
  refine tw_metOfC (by decide +kernel) (Nat.le_of_ble_eq_true rfl) ?_
  intro z el eB eD eC eS eR ec es hz hAK hnm X hret hQ
  subst el eB eD eC eS
  have X : tw_X z cX6_init "TreasureWalk$Reader" 1 := X
  show tw_Rc z F 401 0 [(0, .ref (tw_zB z + 400))] []
  refine tw_Rc.z0 ec es ?_
  refine tw_Rc.cong ?_ (tw_cw_0 (G := tw_E (tw_zB z) (tw_zC z) σ) hF)
  refine c_aload_n (z := tw_cz z 0 0) X dX6_init_0 rfl 0 rfl ?_
  refine c_obj (z := tw_cz z 0 0) X dX6_init_1 _ tw_u410 (List.mem_of_getElem? tw_u121) (List.mem_of_getElem? tw_u122) (by show 1 ≤ (tw_zR z).frames; rw [eR]; exact Nat.le_of_ble_eq_true rfl) (by show 20 ≤ (tw_zR z).locals; rw [eR]; exact Nat.le_of_ble_eq_true rfl) (Nat.le_of_ble_eq_true rfl) ?_
  refine c_aload_n (z := tw_cz z 0 0) X dX6_init_4 rfl 0 rfl ?_
  refine k_new (ci := 7) (T := TX7) (N := 1) (fs := [.null]) (mm := 401) (c := 0) (s := 0) (c' := 1) (s' := 1) X dX6_init_5 _ tw_u411 tw_u141 tw_u91 tw_in7 tyX7 tyX7_ok rfl tw_df7 (by rw [eR]; exact Nat.le_of_ble_eq_true rfl) (by rw [eR]; exact Nat.le_of_ble_eq_true rfl) rfl rfl ?_
  refine c_dup (z := tw_cz z 1 1) X dX6_init_8 rfl ?_
  refine c_sipush (z := tw_cz z 1 1) X dX6_init_9 (v := (600 : Int32)) (by decide) ?_
  refine k_init (rm := { frames := 1, cells := 1, slots := 600, locals := 20 }) (c := 1) (s := 1) (c' := 2) (s' := 601) (m := 401) (m' := 403) (As := [.int 600]) X hAK hz (by omega) dX6_init_12 (tw_i_X7 (σ := σ) (N := 600) (by decide +kernel) (by decide +kernel) rfl (by decide) (fun q a b => h0 q (by omega) (by omega)) (va_up_self _ _ _)) tw_y_X7_init tw_u143 rfl _ tw_u412 rfl (by rw [eR]; exact Nat.le_of_ble_eq_true rfl) (by rw [eR]; exact Nat.le_of_ble_eq_true rfl) (by rw [eR]; exact Nat.le_of_ble_eq_true rfl) (by rw [eR]; exact Nat.le_of_ble_eq_true rfl) rfl rfl (Nat.le_of_ble_eq_true rfl) rfl (by omega) (by omega) ?_
  refine k_putF (ci := 6) (T := TX6) (f := 0) (fs' := [.ref (tw_zB z + 401), .int 0, .null, .int 0, .int 0, .int 0, .int 0, .int 0, .int 0, .int 0, .int 0]) (ty := .object "TreasureWalk$Row") X hnm hz (by omega) dX6_init_15 _ tw_u415 tw_in6 tyX6 tyX6_ok nmX6 rfl (by decide) rfl rfl (by decide +kernel) rfl rfl (by omega) (Nat.le_of_ble_eq_true rfl) rfl ?_
  refine c_aload_n (z := tw_cz z 2 601) X dX6_init_18 rfl 0 rfl ?_
  refine k_new (ci := 2) (T := TX2) (N := 14) (fs := [.int 0, .int 0, .null, .null, .null, .int 0, .null, .null, .null, .null, .int 0, .int 0, .int 0, .int 0]) (mm := 403) (c := 2) (s := 601) (c' := 3) (s' := 615) X dX6_init_19 _ tw_u413 tw_u124 tw_u89 tw_in2 tyX2 tyX2_ok rfl tw_df2 (by rw [eR]; exact Nat.le_of_ble_eq_true rfl) (by rw [eR]; exact Nat.le_of_ble_eq_true rfl) rfl rfl ?_
  refine c_dup (z := tw_cz z 3 615) X dX6_init_22 rfl ?_
  refine k_initN (rm := { frames := 3, cells := 31, slots := 305, locals := 61 }) (c := 3) (s := 615) (c' := 34) (s' := 920) (m := 403) (m' := 435) (As := []) X hAK hz (by omega) dX6_init_23 (tw_i_X2 (σ := σ) (by decide +kernel) (fun q a b => h0 q (by omega) (by omega)) (va_up_self _ _ _)) tw_y_X2_init tw_u126 rfl _ tw_u414 rfl (by rw [eR]; exact Nat.le_of_ble_eq_true rfl) (by rw [eR]; exact Nat.le_of_ble_eq_true rfl) (by rw [eR]; exact Nat.le_of_ble_eq_true rfl) (by rw [eR]; exact Nat.le_of_ble_eq_true rfl) rfl rfl (Nat.le_of_ble_eq_true rfl) rfl (by omega) (by omega) ?_
  refine k_putF (ci := 6) (T := TX6) (f := 2) (fs' := [.ref (tw_zB z + 401), .int 0, .ref (tw_zB z + 403), .int 0, .int 0, .int 0, .int 0, .int 0, .int 0, .int 0, .int 0]) (ty := .object "TreasureWalk$Data") X hnm hz (by omega) dX6_init_26 _ tw_u418 tw_in6 tyX6 tyX6_ok nmX6 rfl (by decide) rfl rfl (by decide +kernel) rfl rfl (by omega) (Nat.le_of_ble_eq_true rfl) rfl ?_
  exact k_ret dX6_init_29 hQ rfl rfl (tw_cw_end (by omega) (by rw [tw_E6 (by decide +kernel : tw_kd 400 = 6)]; simp [tw_fs6, h0 400 (by omega) (by omega)]))
set_option maxRecDepth 100000 in
set_option maxHeartbeats 4000000 in
theorem tw_i_X8 {l : Launch} {B : Nat} {D : va_G} {C : Nat → ClassId} {S : Nat → Nat} {σ : tw_Sg} {F : Nat → va_E} (h0 : ∀ q, 134 ≤ q → q < 142 → σ q = fun _ => 0) (hF : F 134 = .inr (8, [.null, .null, .null, .null])) : tw_MetC l B D C S yX8_init cX8_init 3 { frames := 3, cells := 7, slots := 1131, locals := 61 } [.ref (B + 134), .ref (B + 1), .ref (B + 33)] F 135 (tw_fin (tw_E B C σ) F 134 142) 142 := by
  refine tw_metOfC (by decide +kernel) (Nat.le_of_ble_eq_true rfl) ?_
  intro z el eB eD eC eS eR ec es hz hAK hnm X hret hQ
  subst el eB eD eC eS
  have X : tw_X z cX8_init "TreasureWalk$Survey" 3 := X
  show tw_Rc z F 135 0 [(0, .ref (tw_zB z + 134)), (1, .ref (tw_zB z + 1)), (2, .ref (tw_zB z + 33))] []
  refine tw_Rc.z0 ec es ?_
  refine tw_Rc.cong ?_ (tw_cw_0 (G := tw_E (tw_zB z) (tw_zC z) σ) hF)
  refine c_aload_n (z := tw_cz z 0 0) X dX8_init_0 rfl 0 rfl ?_
  refine c_obj (z := tw_cz z 0 0) X dX8_init_1 _ tw_u353 (List.mem_of_getElem? tw_u121) (List.mem_of_getElem? tw_u122) (by show 1 ≤ (tw_zR z).frames; rw [eR]; exact Nat.le_of_ble_eq_true rfl) (by show 20 ≤ (tw_zR z).locals; rw [eR]; exact Nat.le_of_ble_eq_true rfl) (Nat.le_of_ble_eq_true rfl) ?_
  refine c_aload_n (z := tw_cz z 0 0) X dX8_init_4 rfl 0 rfl ?_
  refine k_new (ci := 3) (T := TX3) (N := 2) (fs := [.null, .null]) (mm := 135) (c := 0) (s := 0) (c' := 1) (s' := 2) X dX8_init_5 _ tw_u354 tw_u355 tw_u97 tw_in3 tyX3 tyX3_ok rfl tw_df3 (by rw [eR]; exact Nat.le_of_ble_eq_true rfl) (by rw [eR]; exact Nat.le_of_ble_eq_true rfl) rfl rfl ?_
  refine c_dup (z := tw_cz z 1 2) X dX8_init_8 rfl ?_
  refine k_initN (rm := { frames := 2, cells := 4, slots := 1106, locals := 41 }) (c := 1) (s := 2) (c' := 5) (s' := 1108) (m := 135) (m' := 140) (As := []) X hAK hz (by omega) dX8_init_9 (tw_i_X3 (σ := σ) (fun q a b => h0 q (by omega) (by omega)) (va_up_self _ _ _)) tw_y_X3_init tw_u357 rfl _ tw_u356 rfl (by rw [eR]; exact Nat.le_of_ble_eq_true rfl) (by rw [eR]; exact Nat.le_of_ble_eq_true rfl) (by rw [eR]; exact Nat.le_of_ble_eq_true rfl) (by rw [eR]; exact Nat.le_of_ble_eq_true rfl) rfl rfl (Nat.le_of_ble_eq_true rfl) rfl (by omega) (by omega) ?_
  refine k_putF (ci := 8) (T := TX8) (f := 2) (fs' := [.null, .null, .ref (tw_zB z + 135), .null]) (ty := .object "TreasureWalk$Flood") X hnm hz (by omega) dX8_init_12 _ tw_u374 tw_in8 tyX8 tyX8_ok nmX8 rfl (by decide) rfl rfl (by decide +kernel) rfl rfl (by omega) (Nat.le_of_ble_eq_true rfl) rfl ?_
  refine c_aload_n (z := tw_cz z 5 1108) X dX8_init_15 rfl 0 rfl ?_
  refine k_new (ci := 0) (T := TX0) (N := 1) (fs := [.null]) (mm := 140) (c := 5) (s := 1108) (c' := 6) (s' := 1109) X dX8_init_16 _ tw_u370 tw_u130 tw_u90 tw_in0 tyX0 tyX0_ok rfl tw_df0 (by rw [eR]; exact Nat.le_of_ble_eq_true rfl) (by rw [eR]; exact Nat.le_of_ble_eq_true rfl) rfl rfl ?_
  refine c_dup (z := tw_cz z 6 1109) X dX8_init_19 rfl ?_
  refine k_initN (rm := { frames := 1, cells := 1, slots := 22, locals := 20 }) (c := 6) (s := 1109) (c' := 7) (s' := 1131) (m := 140) (m' := 142) (As := []) X hAK hz (by omega) dX8_init_20 (tw_i_X0 (σ := σ) (by decide +kernel) (fun q a b => h0 q (by omega) (by omega)) (va_up_self _ _ _)) tw_y_X0_init tw_u132 rfl _ tw_u371 rfl (by rw [eR]; exact Nat.le_of_ble_eq_true rfl) (by rw [eR]; exact Nat.le_of_ble_eq_true rfl) (by rw [eR]; exact Nat.le_of_ble_eq_true rfl) (by rw [eR]; exact Nat.le_of_ble_eq_true rfl) rfl rfl (Nat.le_of_ble_eq_true rfl) rfl (by omega) (by omega) ?_
  refine k_putF (ci := 8) (T := TX8) (f := 3) (fs' := [.null, .null, .ref (tw_zB z + 135), .ref (tw_zB z + 140)]) (ty := .object "TreasureWalk$Cells") X hnm hz (by omega) dX8_init_23 _ tw_u375 tw_in8 tyX8 tyX8_ok nmX8 rfl (by decide) rfl rfl (by decide +kernel) rfl rfl (by omega) (Nat.le_of_ble_eq_true rfl) rfl ?_
  refine c_aload_n (z := tw_cz z 7 1131) X dX8_init_26 rfl 0 rfl ?_
  refine c_aload_n (z := tw_cz z 7 1131) X dX8_init_27 rfl 1 rfl ?_
  refine k_putF (ci := 8) (T := TX8) (f := 0) (fs' := [.ref (tw_zB z + 1), .null, .ref (tw_zB z + 135), .ref (tw_zB z + 140)]) (ty := .object "TreasureWalk$Data") X hnm hz (by omega) dX8_init_28 _ tw_u372 tw_in8 tyX8 tyX8_ok nmX8 rfl (by decide) rfl rfl (by decide +kernel) rfl rfl (by omega) (Nat.le_of_ble_eq_true rfl) rfl ?_
  refine c_aload_n (z := tw_cz z 7 1131) X dX8_init_31 rfl 0 rfl ?_
  refine c_aload_n (z := tw_cz z 7 1131) X dX8_init_32 rfl 2 rfl ?_
  refine k_putF (ci := 8) (T := TX8) (f := 1) (fs' := [.ref (tw_zB z + 1), .ref (tw_zB z + 33), .ref (tw_zB z + 135), .ref (tw_zB z + 140)]) (ty := .object "TreasureWalk$Trails") X hnm hz (by omega) dX8_init_33 _ tw_u373 tw_in8 tyX8 tyX8_ok nmX8 rfl (by decide) rfl rfl (by decide +kernel) rfl rfl (by omega) (Nat.le_of_ble_eq_true rfl) rfl ?_
  exact k_ret dX8_init_36 hQ rfl rfl (tw_cw_end (by omega) (by rw [tw_E8 (by decide +kernel : tw_kd 134 = 8)]; simp [tw_fs8, h0 134 (by omega) (by omega)]))
set_option maxRecDepth 100000 in
set_option maxHeartbeats 4000000 in
theorem tw_i_X9 {l : Launch} {B : Nat} {D : va_G} {C : Nat → ClassId} {S : Nat → Nat} {σ : tw_Sg} {F : Nat → va_E} (h0 : ∀ q, 435 ≤ q → q < 442 → σ q = fun _ => 0) (hF : F 435 = .inr (9, [.null, .null, .int 0, .null, .null, .null])) : tw_MetC l B D C S yX9_init cX9_init 3 { frames := 2, cells := 6, slots := 4710, locals := 41 } [.ref (B + 435), .ref (B + 1), .ref (B + 134)] F 436 (tw_fin (tw_E B C σ) F 435 442) 442 := by
  refine tw_metOfC (by decide +kernel) (Nat.le_of_ble_eq_true rfl) ?_
  intro z el eB eD eC eS eR ec es hz hAK hnm X hret hQ
  subst el eB eD eC eS
  have X : tw_X z cX9_init "TreasureWalk$Tours" 3 := X
  show tw_Rc z F 436 0 [(0, .ref (tw_zB z + 435)), (1, .ref (tw_zB z + 1)), (2, .ref (tw_zB z + 134))] []
  refine tw_Rc.z0 ec es ?_
  refine tw_Rc.cong ?_ (tw_cw_0 (G := tw_E (tw_zB z) (tw_zC z) σ) hF)
  refine c_aload_n (z := tw_cz z 0 0) X dX9_init_0 rfl 0 rfl ?_
  refine c_obj (z := tw_cz z 0 0) X dX9_init_1 _ tw_u457 (List.mem_of_getElem? tw_u121) (List.mem_of_getElem? tw_u122) (by show 1 ≤ (tw_zR z).frames; rw [eR]; exact Nat.le_of_ble_eq_true rfl) (by show 20 ≤ (tw_zR z).locals; rw [eR]; exact Nat.le_of_ble_eq_true rfl) (Nat.le_of_ble_eq_true rfl) ?_
  refine c_aload_n (z := tw_cz z 0 0) X dX9_init_4 rfl 0 rfl ?_
  refine k_new (ci := 7) (T := TX7) (N := 1) (fs := [.null]) (mm := 436) (c := 0) (s := 0) (c' := 1) (s' := 1) X dX9_init_5 _ tw_u458 tw_u141 tw_u91 tw_in7 tyX7 tyX7_ok rfl tw_df7 (by rw [eR]; exact Nat.le_of_ble_eq_true rfl) (by rw [eR]; exact Nat.le_of_ble_eq_true rfl) rfl rfl ?_
  refine c_dup (z := tw_cz z 1 1) X dX9_init_8 rfl ?_
  refine c_bipush (z := tw_cz z 1 1) X dX9_init_9 (v := (9 : Int32)) (by decide) ?_
  refine k_init (rm := { frames := 1, cells := 1, slots := 9, locals := 20 }) (c := 1) (s := 1) (c' := 2) (s' := 10) (m := 436) (m' := 438) (As := [.int 9]) X hAK hz (by omega) dX9_init_11 (tw_i_X7 (σ := σ) (N := 9) (by decide +kernel) (by decide +kernel) rfl (by decide) (fun q a b => h0 q (by omega) (by omega)) (va_up_self _ _ _)) tw_y_X7_init tw_u143 rfl _ tw_u459 rfl (by rw [eR]; exact Nat.le_of_ble_eq_true rfl) (by rw [eR]; exact Nat.le_of_ble_eq_true rfl) (by rw [eR]; exact Nat.le_of_ble_eq_true rfl) (by rw [eR]; exact Nat.le_of_ble_eq_true rfl) rfl rfl (Nat.le_of_ble_eq_true rfl) rfl (by omega) (by omega) ?_
  refine k_putF (ci := 9) (T := TX9) (f := 3) (fs' := [.null, .null, .int 0, .ref (tw_zB z + 436), .null, .null]) (ty := .object "TreasureWalk$Row") X hnm hz (by omega) dX9_init_14 _ tw_u463 tw_in9 tyX9 tyX9_ok nmX9 rfl (by decide) rfl rfl (by decide +kernel) rfl rfl (by omega) (Nat.le_of_ble_eq_true rfl) rfl ?_
  refine c_aload_n (z := tw_cz z 2 10) X dX9_init_17 rfl 0 rfl ?_
  refine k_new (ci := 7) (T := TX7) (N := 1) (fs := [.null]) (mm := 438) (c := 2) (s := 10) (c' := 3) (s' := 11) X dX9_init_18 _ tw_u458 tw_u141 tw_u91 tw_in7 tyX7 tyX7_ok rfl tw_df7 (by rw [eR]; exact Nat.le_of_ble_eq_true rfl) (by rw [eR]; exact Nat.le_of_ble_eq_true rfl) rfl rfl ?_
  refine c_dup (z := tw_cz z 3 11) X dX9_init_21 rfl ?_
  refine c_bipush (z := tw_cz z 3 11) X dX9_init_22 (v := (90 : Int32)) (by decide) ?_
  refine k_init (rm := { frames := 1, cells := 1, slots := 90, locals := 20 }) (c := 3) (s := 11) (c' := 4) (s' := 101) (m := 438) (m' := 440) (As := [.int 90]) X hAK hz (by omega) dX9_init_24 (tw_i_X7 (σ := σ) (N := 90) (by decide +kernel) (by decide +kernel) rfl (by decide) (fun q a b => h0 q (by omega) (by omega)) (va_up_self _ _ _)) tw_y_X7_init tw_u143 rfl _ tw_u459 rfl (by rw [eR]; exact Nat.le_of_ble_eq_true rfl) (by rw [eR]; exact Nat.le_of_ble_eq_true rfl) (by rw [eR]; exact Nat.le_of_ble_eq_true rfl) (by rw [eR]; exact Nat.le_of_ble_eq_true rfl) rfl rfl (Nat.le_of_ble_eq_true rfl) rfl (by omega) (by omega) ?_
  refine k_putF (ci := 9) (T := TX9) (f := 4) (fs' := [.null, .null, .int 0, .ref (tw_zB z + 436), .ref (tw_zB z + 438), .null]) (ty := .object "TreasureWalk$Row") X hnm hz (by omega) dX9_init_27 _ tw_u464 tw_in9 tyX9 tyX9_ok nmX9 rfl (by decide) rfl rfl (by decide +kernel) rfl rfl (by omega) (Nat.le_of_ble_eq_true rfl) rfl ?_
  refine c_aload_n (z := tw_cz z 4 101) X dX9_init_30 rfl 0 rfl ?_
  refine k_new (ci := 7) (T := TX7) (N := 1) (fs := [.null]) (mm := 440) (c := 4) (s := 101) (c' := 5) (s' := 102) X dX9_init_31 _ tw_u458 tw_u141 tw_u91 tw_in7 tyX7 tyX7_ok rfl tw_df7 (by rw [eR]; exact Nat.le_of_ble_eq_true rfl) (by rw [eR]; exact Nat.le_of_ble_eq_true rfl) rfl rfl ?_
  refine c_dup (z := tw_cz z 5 102) X dX9_init_34 rfl ?_
  refine c_sipush (z := tw_cz z 5 102) X dX9_init_35 (v := (4608 : Int32)) (by decide) ?_
  refine k_init (rm := { frames := 1, cells := 1, slots := 4608, locals := 20 }) (c := 5) (s := 102) (c' := 6) (s' := 4710) (m := 440) (m' := 442) (As := [.int 4608]) X hAK hz (by omega) dX9_init_38 (tw_i_X7 (σ := σ) (N := 4608) (by decide +kernel) (by decide +kernel) rfl (by decide) (fun q a b => h0 q (by omega) (by omega)) (va_up_self _ _ _)) tw_y_X7_init tw_u143 rfl _ tw_u459 rfl (by rw [eR]; exact Nat.le_of_ble_eq_true rfl) (by rw [eR]; exact Nat.le_of_ble_eq_true rfl) (by rw [eR]; exact Nat.le_of_ble_eq_true rfl) (by rw [eR]; exact Nat.le_of_ble_eq_true rfl) rfl rfl (Nat.le_of_ble_eq_true rfl) rfl (by omega) (by omega) ?_
  refine k_putF (ci := 9) (T := TX9) (f := 5) (fs' := [.null, .null, .int 0, .ref (tw_zB z + 436), .ref (tw_zB z + 438), .ref (tw_zB z + 440)]) (ty := .object "TreasureWalk$Row") X hnm hz (by omega) dX9_init_41 _ tw_u465 tw_in9 tyX9 tyX9_ok nmX9 rfl (by decide) rfl rfl (by decide +kernel) rfl rfl (by omega) (Nat.le_of_ble_eq_true rfl) rfl ?_
  refine c_aload_n (z := tw_cz z 6 4710) X dX9_init_44 rfl 0 rfl ?_
  refine c_aload_n (z := tw_cz z 6 4710) X dX9_init_45 rfl 1 rfl ?_
  refine k_putF (ci := 9) (T := TX9) (f := 0) (fs' := [.ref (tw_zB z + 1), .null, .int 0, .ref (tw_zB z + 436), .ref (tw_zB z + 438), .ref (tw_zB z + 440)]) (ty := .object "TreasureWalk$Data") X hnm hz (by omega) dX9_init_46 _ tw_u460 tw_in9 tyX9 tyX9_ok nmX9 rfl (by decide) rfl rfl (by decide +kernel) rfl rfl (by omega) (Nat.le_of_ble_eq_true rfl) rfl ?_
  refine c_aload_n (z := tw_cz z 6 4710) X dX9_init_49 rfl 0 rfl ?_
  refine c_aload_n (z := tw_cz z 6 4710) X dX9_init_50 rfl 2 rfl ?_
  refine k_putF (ci := 9) (T := TX9) (f := 1) (fs' := [.ref (tw_zB z + 1), .ref (tw_zB z + 134), .int 0, .ref (tw_zB z + 436), .ref (tw_zB z + 438), .ref (tw_zB z + 440)]) (ty := .object "TreasureWalk$Survey") X hnm hz (by omega) dX9_init_51 _ tw_u461 tw_in9 tyX9 tyX9_ok nmX9 rfl (by decide) rfl rfl (by decide +kernel) rfl rfl (by omega) (Nat.le_of_ble_eq_true rfl) rfl ?_
  exact k_ret dX9_init_54 hQ rfl rfl (tw_cw_end (by omega) (by rw [tw_E9 (by decide +kernel : tw_kd 435 = 9)]; simp [tw_fs9, h0 435 (by omega) (by omega)]))
set_option maxRecDepth 100000 in
set_option maxHeartbeats 4000000 in
theorem tw_i_X5_36 {l : Launch} {B : Nat} {D : va_G} {C : Nat → ClassId} {S : Nat → Nat} {σ : tw_Sg} {F : Nat → va_E} (h0 : ∀ q, 36 ≤ q → q < 112 → σ q = fun _ => 0) (hF : F 36 = .inr (5, [.null, .null])) : tw_MetC l B D C S yX5_init cX5_init 3 { frames := 2, cells := 75, slots := 887, locals := 40 } [.ref (B + 36), .int 36] F 37 (tw_fin (tw_E B C σ) F 36 112) 112 := by
  refine tw_metOfC (by decide +kernel) (Nat.le_of_ble_eq_true rfl) ?_
  intro z el eB eD eC eS eR ec es hz hAK hnm X hret hQ
  subst el eB eD eC eS
  have X : tw_X z cX5_init "TreasureWalk$Layers" 3 := X
  show tw_Rc z F 37 0 [(0, .ref (tw_zB z + 36)), (1, .int 36)] []
  refine tw_Rc.z0 ec es ?_
  refine tw_Rc.cong ?_ (tw_cw_0 (G := tw_E (tw_zB z) (tw_zC z) σ) hF)
  refine c_aload_n (z := tw_cz z 0 0) X dX5_init_0 rfl 0 rfl ?_
  refine c_obj (z := tw_cz z 0 0) X dX5_init_1 _ tw_u324 (List.mem_of_getElem? tw_u121) (List.mem_of_getElem? tw_u122) (by show 1 ≤ (tw_zR z).frames; rw [eR]; exact Nat.le_of_ble_eq_true rfl) (by show 20 ≤ (tw_zR z).locals; rw [eR]; exact Nat.le_of_ble_eq_true rfl) (Nat.le_of_ble_eq_true rfl) ?_
  refine c_aload_n (z := tw_cz z 0 0) X dX5_init_4 rfl 0 rfl ?_
  refine k_new (ci := 0) (T := TX0) (N := 1) (fs := [.null]) (mm := 37) (c := 0) (s := 0) (c' := 1) (s' := 1) X dX5_init_5 _ tw_u325 tw_u130 tw_u90 tw_in0 tyX0 tyX0_ok rfl tw_df0 (by rw [eR]; exact Nat.le_of_ble_eq_true rfl) (by rw [eR]; exact Nat.le_of_ble_eq_true rfl) rfl rfl ?_
  refine c_dup (z := tw_cz z 1 1) X dX5_init_8 rfl ?_
  refine k_initN (rm := { frames := 1, cells := 1, slots := 22, locals := 20 }) (c := 1) (s := 1) (c' := 2) (s' := 23) (m := 37) (m' := 39) (As := []) X hAK hz (by omega) dX5_init_9 (tw_i_X0 (σ := σ) (by decide +kernel) (fun q a b => h0 q (by omega) (by omega)) (va_up_self _ _ _)) tw_y_X0_init tw_u132 rfl _ tw_u326 rfl (by rw [eR]; exact Nat.le_of_ble_eq_true rfl) (by rw [eR]; exact Nat.le_of_ble_eq_true rfl) (by rw [eR]; exact Nat.le_of_ble_eq_true rfl) (by rw [eR]; exact Nat.le_of_ble_eq_true rfl) rfl rfl (Nat.le_of_ble_eq_true rfl) rfl (by omega) (by omega) ?_
  refine k_putF (ci := 5) (T := TX5) (f := 1) (fs' := [.null, .ref (tw_zB z + 37)]) (ty := .object "TreasureWalk$Cells") X hnm hz (by omega) dX5_init_12 _ tw_u329 tw_in5 tyX5 tyX5_ok nmX5 rfl (by decide) rfl rfl (by decide +kernel) rfl rfl (by omega) (Nat.le_of_ble_eq_true rfl) rfl ?_
  refine c_aload_n (z := tw_cz z 2 23) X dX5_init_15 rfl 0 rfl ?_
  refine c_iload_n (z := tw_cz z 2 23) X dX5_init_16 rfl 1 rfl ?_
  refine c_ifle (z := tw_cz z 2 23) X dX5_init_17 (by decide) (by decide) ?_
  refine c_iload_n (z := tw_cz z 2 23) X dX5_init_20 rfl 1 rfl ?_
  refine c_goto (z := tw_cz z 2 23) X dX5_init_21 (tgt := 25) (by decide) ?_
  refine c_newq (t0 := 2) (N := 36) (z := tw_cz z 2 23) X dX5_init_25 _ tw_u325 hAK.2.1 rfl (by decide) (by decide) (by omega) (by rw [eR]; show _ ≤ _; exact Nat.le_of_ble_eq_true rfl) (by rw [eR]; exact Nat.le_of_ble_eq_true rfl) ?_
  show tw_Rc (tw_cz z 3 59) (va_up (tw_cw (tw_E (tw_zB z) (tw_zC z) σ) F 36 (.inr (5, [.null, .ref (tw_zB z + 37)])) 39) 39 (.inl (tw_zC z 2, 36, .inr (.inr (.inr (.inr (fun _ => none))))))) (39 + 1) 28 _ _
  refine c_putF (z := tw_cz z 3 59) (ci := 5) (T := TX5) (f := 0) (ty := .array (.object "TreasureWalk$Cells")) X hnm (by show (tw_zs z).heap.size + 3 = tw_zB z + _; omega) dX5_init_28 _ tw_u328 tw_in5 tyX5 tyX5_ok nmX5 rfl (by decide) rfl rfl (by decide +kernel) rfl rfl (by omega) ((va_up_ne _ _ (by omega)).trans tw_cw_s) (Nat.le_of_ble_eq_true rfl) ?_
  refine c_iconst (z := tw_cz z 3 59) X dX5_init_31 (v := (0 : Int32)) (by decide) ?_
  refine c_istore_n (z := tw_cz z 3 59) X dX5_init_32 rfl (by decide) (L' := [(2, .int 0), (0, .ref (tw_zB z + 36)), (1, .int 36)]) rfl ?_
  have loop : ∀ r i : Nat, i + r = 36 → tw_Rc (tw_cz z (3 + 2 * i) (59 + 23 * i)) (va_up (tw_cw (tw_E (tw_zB z) (tw_zC z) σ) F 36 (.inr (5, [.ref (tw_zB z + 39), .ref (tw_zB z + 37)])) (40 + 2 * i)) 39 (.inl (tw_zC z 2, 36, .inr (.inr (.inr (.inr (fun j => if j < i then some (tw_zB z + (39 + 1 + 2 * j)) else none))))))) (40 + 2 * i) 33 [(2, .int (Int32.ofNat i)), (0, .ref (tw_zB z + 36))] [] := by
    intro r
    induction r with
    | zero =>
      intro i hi
      have hi : i = 36 := by omega
      subst hi
      refine c_iload_n (z := tw_cz z (3 + 2 * i) (59 + 23 * i)) X dX5_init_33 rfl 0 rfl ?_
      refine c_aload_n (z := tw_cz z (3 + 2 * i) (59 + 23 * i)) X dX5_init_34 rfl 1 rfl ?_
      refine c_getf (z := tw_cz z (3 + 2 * i) (59 + 23 * i)) (ci := 5) (T := TX5) (f := 0) (k := 36) X dX5_init_35 _ tw_u328 tw_in5 rfl (by decide) (by omega) ((va_up_ne _ _ (by omega)).trans tw_cw_s) rfl ?_
      refine c_alenq (z := tw_cz z (3 + 2 * i) (59 + 23 * i)) (t0 := 2) (k := 39) X dX5_init_38 (by omega) (va_up_self _ _ _) rfl rfl ?_
      refine c_icmpge (z := tw_cz z (3 + 2 * i) (59 + 23 * i)) X dX5_init_39 (tgt := 61) (by decide) (fun _ => ?_) (fun h => absurd (show Int32.ofNat 36 ≤ Int32.ofNat 36 by decide) h)
      refine tw_Rc.cong2 (G := tw_cw (tw_E (tw_zB z) (tw_zC z) σ) F 36 (.inr (5, [.ref (tw_zB z + 39), .ref (tw_zB z + 37)])) 112) ?_ (fun q hq => ?_)
      · exact k_ret dX5_init_61 hQ rfl rfl (tw_cw_end (by omega) (by rw [tw_E5 (by decide +kernel : tw_kd 36 = 5)]; simp [tw_fs5, h0 36 (by omega) (by omega)]))
      · by_cases h : q = 39
        · right
          subst h
          refine ⟨_, _, _, _, va_up_self _ _ _, (tw_cw_g (by omega) (by omega)).trans ((tw_E15 (by decide +kernel)).trans (by rw [show tw_ln 39 = 36 from by decide +kernel])), fun j hj => ?_⟩
          show (if j < 36 then _ else none) = _
          rw [if_pos hj]
        · left
          exact va_up_ne _ _ h
    | succ r ih =>
      intro i hi
      refine c_iload_n (z := tw_cz z (3 + 2 * i) (59 + 23 * i)) X dX5_init_33 rfl 0 rfl ?_
      refine c_aload_n (z := tw_cz z (3 + 2 * i) (59 + 23 * i)) X dX5_init_34 rfl 1 rfl ?_
      refine c_getf (z := tw_cz z (3 + 2 * i) (59 + 23 * i)) (ci := 5) (T := TX5) (f := 0) (k := 36) X dX5_init_35 _ tw_u328 tw_in5 rfl (by decide) (by omega) ((va_up_ne _ _ (by omega)).trans tw_cw_s) rfl ?_
      refine c_alenq (z := tw_cz z (3 + 2 * i) (59 + 23 * i)) (t0 := 2) (k := 39) X dX5_init_38 (by omega) (va_up_self _ _ _) rfl rfl ?_
      refine c_icmpge (z := tw_cz z (3 + 2 * i) (59 + 23 * i)) X dX5_init_39 (tgt := 61) (by decide) (fun h => ?_) (fun _ => ?_)
      · exfalso
        have h1 := (tw_i32le (by omega) (by omega)).mp h
        omega
      refine c_aload_n (z := tw_cz z (3 + 2 * i) (59 + 23 * i)) X dX5_init_42 rfl 1 rfl ?_
      refine c_getf (z := tw_cz z (3 + 2 * i) (59 + 23 * i)) (ci := 5) (T := TX5) (f := 0) (k := 36) X dX5_init_43 _ tw_u328 tw_in5 rfl (by decide) (by omega) ((va_up_ne _ _ (by omega)).trans tw_cw_s) rfl ?_
      refine c_iload_n (z := tw_cz z (3 + 2 * i) (59 + 23 * i)) X dX5_init_46 rfl 0 rfl ?_
      refine k_new (ci := 0) (T := TX0) (N := 1) (fs := [.null]) (mm := (40 + 2 * i)) (c := 3 + 2 * i) (s := 59 + 23 * i) (c' := 3 + 2 * i + 1) (s' := 59 + 23 * i + 1) X dX5_init_47 _ tw_u325 tw_u130 tw_u90 tw_in0 tyX0 tyX0_ok rfl tw_df0 (by rw [eR]; show _ ≤ _; simp only []; omega) (by rw [eR]; show _ ≤ _; simp only []; omega) rfl rfl ?_
      refine c_dup (z := tw_cz z (3 + 2 * i + 1) (59 + 23 * i + 1)) X dX5_init_50 rfl ?_
      have hkn : tw_kd (40 + 2 * i) = 0 := (by decide : ∀ j, j < 36 → tw_kd (40 + 2 * j) = 0) i (by omega)
      refine c_initN (rm := { frames := 1, cells := 1, slots := 22, locals := 20 }) (z := tw_cz z (3 + 2 * i + 1) (59 + 23 * i + 1)) (mm := (40 + 2 * i) + 1) (mm' := (40 + 2 * i) + 2) (F' := tw_fin (tw_E (tw_zB z) (tw_zC z) σ) _ (40 + 2 * i) ((40 + 2 * i) + 2)) (As := []) X hAK (by show (tw_zs z).heap.size + (3 + 2 * i + 1) = tw_zB z + ((40 + 2 * i) + 1); omega) dX5_init_51 (tw_i_X0 (σ := σ) hkn (fun q a b => h0 q (by omega) (by omega)) (va_up_self _ _ _)) tw_y_X0_init (List.mem_of_getElem? tw_u132) rfl _ tw_u326 rfl ⟨rfl, rfl, (by show 1 + 1 ≤ (tw_zR z).frames; rw [eR]; exact Nat.le_of_ble_eq_true rfl), (by show 40 ≤ (tw_zR z).locals; rw [eR]; exact Nat.le_of_ble_eq_true rfl)⟩ ⟨(by show 3 + 2 * i + 1 + 1 ≤ (tw_zR z).cells; rw [eR]; show _ ≤ 75; omega), (by show 59 + 23 * i + 1 + 22 ≤ (tw_zR z).slots; rw [eR]; show _ ≤ 887; omega)⟩ (Nat.le_of_ble_eq_true rfl) rfl (by omega) (by show (40 + 2 * i) + 2 = (40 + 2 * i) + 1 + 1; omega) ?_
      show tw_Rc (tw_cz z (3 + 2 * i + 1 + 1) (59 + 23 * i + 1 + 22)) _ _ _ _ _
      refine tw_Rc.cong (G := va_up (tw_cw (tw_E (tw_zB z) (tw_zC z) σ) F 36 (.inr (5, [.ref (tw_zB z + 39), .ref (tw_zB z + 37)])) ((40 + 2 * i) + 2)) 39 (.inl (tw_zC z 2, 36, .inr (.inr (.inr (.inr (fun j => if j < i then some (tw_zB z + (39 + 1 + 2 * j)) else none))))))) ?_ (fun q hq => ?_)
      rotate_left
      · unfold tw_fin
        by_cases h1 : (40 + 2 * i) ≤ q
        · rw [if_pos ⟨h1, hq⟩, va_up_ne _ _ (by omega), tw_cw_g (by omega) hq]
        · rw [if_neg (by omega), va_up_ne _ _ (by omega)]
          by_cases h2 : q = 39
          · subst h2; rw [va_up_self, va_up_self]
          · rw [va_up_ne _ _ h2, va_up_ne _ _ h2]
            unfold tw_cw
            by_cases h3 : q = 36
            · rw [if_pos h3, if_pos h3]
            · rw [if_neg h3, if_neg h3]
              by_cases h4 : 36 < q
              · rw [if_pos ⟨h4, by omega⟩, if_pos ⟨h4, by omega⟩]
              · rw [if_neg (by omega), if_neg (by omega)]
      refine c_astq (z := tw_cz z (3 + 2 * i + 1 + 1) (59 + 23 * i + 1 + 22)) (ci := 0) (k := 39) (t0 := 2) (q := (40 + 2 * i)) (n := 36) X (by show (tw_zs z).heap.size + (3 + 2 * i + 1 + 1) = tw_zB z + ((40 + 2 * i) + 2); omega) dX5_init_54 (by omega) (by omega) (va_up_self _ _ _) rfl ((va_up_ne _ _ (by omega)).trans ((tw_cw_g (by omega) (by omega)).trans (tw_E0 hkn))) rfl (by intro h; rcases h with h | h; exact absurd h (by rw [show (0 : Int32) = Int32.ofNat 0 from rfl, Int32.lt_iff_toInt_lt, Int32.toInt_ofNat_of_lt (by omega), Int32.toInt_ofNat_of_lt (by omega)]; omega); rw [tw_i32n (by omega)] at h; omega) ?_
      refine c_iinc (z := tw_cz z (3 + 2 * i + 1 + 1) (59 + 23 * i + 1 + 22)) X dX5_init_55 0 rfl (tw_i32s i) (by decide) (L' := [(2, .int (Int32.ofNat (i + 1))), (0, .ref (tw_zB z + 36))]) rfl ?_
      refine c_goto (z := tw_cz z (3 + 2 * i + 1 + 1) (59 + 23 * i + 1 + 22)) X dX5_init_58 (tgt := 33) (by decide) ?_
      have ih1 := ih (i + 1) (by omega)
      rw [show 3 + 2 * (i + 1) = 3 + 2 * i + 1 + 1 from by omega, show 59 + 23 * (i + 1) = 59 + 23 * i + 1 + 22 from by omega, show 40 + 2 * (i + 1) = (40 + 2 * i) + 2 from by omega] at ih1
      refine tw_Rc.cong ih1 (fun q hq => ?_)
      by_cases h2 : q = 39
      · subst h2
        rw [va_up_self, va_up_self, tw_i32n (by omega)]
        congr 6
        funext j
        unfold va_up
        by_cases h3 : j = i
        · subst h3; rw [if_pos rfl, if_pos (Nat.lt_succ_self _)]; congr 1; omega
        · rw [if_neg h3]
          by_cases h4 : j < i
          · rw [if_pos h4, if_pos (by omega)]
          · rw [if_neg h4, if_neg (by omega)]
      · rw [va_up_ne _ _ h2, va_up_ne _ _ h2, va_up_ne _ _ h2]
  have h := loop 36 0 (by omega)
  refine tw_Rc.sub [0, 1] rfl ?_
  refine tw_Rc.cong h (fun q hq => ?_)
  unfold va_up tw_cw
  by_cases h2 : q = 39
  · subst h2; rfl
  · rw [if_neg h2]
set_option maxRecDepth 100000 in
set_option maxHeartbeats 4000000 in
theorem tw_i_X5_9 {l : Launch} {B : Nat} {D : va_G} {C : Nat → ClassId} {S : Nat → Nat} {σ : tw_Sg} {F : Nat → va_E} (h0 : ∀ q, 112 ≤ q → q < 134 → σ q = fun _ => 0) (hF : F 112 = .inr (5, [.null, .null])) : tw_MetC l B D C S yX5_init cX5_init 3 { frames := 2, cells := 21, slots := 239, locals := 40 } [.ref (B + 112), .int 9] F 113 (tw_fin (tw_E B C σ) F 112 134) 134 := by
  refine tw_metOfC (by decide +kernel) (Nat.le_of_ble_eq_true rfl) ?_
  intro z el eB eD eC eS eR ec es hz hAK hnm X hret hQ
  subst el eB eD eC eS
  have X : tw_X z cX5_init "TreasureWalk$Layers" 3 := X
  show tw_Rc z F 113 0 [(0, .ref (tw_zB z + 112)), (1, .int 9)] []
  refine tw_Rc.z0 ec es ?_
  refine tw_Rc.cong ?_ (tw_cw_0 (G := tw_E (tw_zB z) (tw_zC z) σ) hF)
  refine c_aload_n (z := tw_cz z 0 0) X dX5_init_0 rfl 0 rfl ?_
  refine c_obj (z := tw_cz z 0 0) X dX5_init_1 _ tw_u324 (List.mem_of_getElem? tw_u121) (List.mem_of_getElem? tw_u122) (by show 1 ≤ (tw_zR z).frames; rw [eR]; exact Nat.le_of_ble_eq_true rfl) (by show 20 ≤ (tw_zR z).locals; rw [eR]; exact Nat.le_of_ble_eq_true rfl) (Nat.le_of_ble_eq_true rfl) ?_
  refine c_aload_n (z := tw_cz z 0 0) X dX5_init_4 rfl 0 rfl ?_
  refine k_new (ci := 0) (T := TX0) (N := 1) (fs := [.null]) (mm := 113) (c := 0) (s := 0) (c' := 1) (s' := 1) X dX5_init_5 _ tw_u325 tw_u130 tw_u90 tw_in0 tyX0 tyX0_ok rfl tw_df0 (by rw [eR]; exact Nat.le_of_ble_eq_true rfl) (by rw [eR]; exact Nat.le_of_ble_eq_true rfl) rfl rfl ?_
  refine c_dup (z := tw_cz z 1 1) X dX5_init_8 rfl ?_
  refine k_initN (rm := { frames := 1, cells := 1, slots := 22, locals := 20 }) (c := 1) (s := 1) (c' := 2) (s' := 23) (m := 113) (m' := 115) (As := []) X hAK hz (by omega) dX5_init_9 (tw_i_X0 (σ := σ) (by decide +kernel) (fun q a b => h0 q (by omega) (by omega)) (va_up_self _ _ _)) tw_y_X0_init tw_u132 rfl _ tw_u326 rfl (by rw [eR]; exact Nat.le_of_ble_eq_true rfl) (by rw [eR]; exact Nat.le_of_ble_eq_true rfl) (by rw [eR]; exact Nat.le_of_ble_eq_true rfl) (by rw [eR]; exact Nat.le_of_ble_eq_true rfl) rfl rfl (Nat.le_of_ble_eq_true rfl) rfl (by omega) (by omega) ?_
  refine k_putF (ci := 5) (T := TX5) (f := 1) (fs' := [.null, .ref (tw_zB z + 113)]) (ty := .object "TreasureWalk$Cells") X hnm hz (by omega) dX5_init_12 _ tw_u329 tw_in5 tyX5 tyX5_ok nmX5 rfl (by decide) rfl rfl (by decide +kernel) rfl rfl (by omega) (Nat.le_of_ble_eq_true rfl) rfl ?_
  refine c_aload_n (z := tw_cz z 2 23) X dX5_init_15 rfl 0 rfl ?_
  refine c_iload_n (z := tw_cz z 2 23) X dX5_init_16 rfl 1 rfl ?_
  refine c_ifle (z := tw_cz z 2 23) X dX5_init_17 (by decide) (by decide) ?_
  refine c_iload_n (z := tw_cz z 2 23) X dX5_init_20 rfl 1 rfl ?_
  refine c_goto (z := tw_cz z 2 23) X dX5_init_21 (tgt := 25) (by decide) ?_
  refine c_newq (t0 := 2) (N := 9) (z := tw_cz z 2 23) X dX5_init_25 _ tw_u325 hAK.2.1 rfl (by decide) (by decide) (by omega) (by rw [eR]; show _ ≤ _; exact Nat.le_of_ble_eq_true rfl) (by rw [eR]; exact Nat.le_of_ble_eq_true rfl) ?_
  show tw_Rc (tw_cz z 3 32) (va_up (tw_cw (tw_E (tw_zB z) (tw_zC z) σ) F 112 (.inr (5, [.null, .ref (tw_zB z + 113)])) 115) 115 (.inl (tw_zC z 2, 9, .inr (.inr (.inr (.inr (fun _ => none))))))) (115 + 1) 28 _ _
  refine c_putF (z := tw_cz z 3 32) (ci := 5) (T := TX5) (f := 0) (ty := .array (.object "TreasureWalk$Cells")) X hnm (by show (tw_zs z).heap.size + 3 = tw_zB z + _; omega) dX5_init_28 _ tw_u328 tw_in5 tyX5 tyX5_ok nmX5 rfl (by decide) rfl rfl (by decide +kernel) rfl rfl (by omega) ((va_up_ne _ _ (by omega)).trans tw_cw_s) (Nat.le_of_ble_eq_true rfl) ?_
  refine c_iconst (z := tw_cz z 3 32) X dX5_init_31 (v := (0 : Int32)) (by decide) ?_
  refine c_istore_n (z := tw_cz z 3 32) X dX5_init_32 rfl (by decide) (L' := [(2, .int 0), (0, .ref (tw_zB z + 112)), (1, .int 9)]) rfl ?_
  have loop : ∀ r i : Nat, i + r = 9 → tw_Rc (tw_cz z (3 + 2 * i) (32 + 23 * i)) (va_up (tw_cw (tw_E (tw_zB z) (tw_zC z) σ) F 112 (.inr (5, [.ref (tw_zB z + 115), .ref (tw_zB z + 113)])) (116 + 2 * i)) 115 (.inl (tw_zC z 2, 9, .inr (.inr (.inr (.inr (fun j => if j < i then some (tw_zB z + (115 + 1 + 2 * j)) else none))))))) (116 + 2 * i) 33 [(2, .int (Int32.ofNat i)), (0, .ref (tw_zB z + 112))] [] := by
    intro r
    induction r with
    | zero =>
      intro i hi
      have hi : i = 9 := by omega
      subst hi
      refine c_iload_n (z := tw_cz z (3 + 2 * i) (32 + 23 * i)) X dX5_init_33 rfl 0 rfl ?_
      refine c_aload_n (z := tw_cz z (3 + 2 * i) (32 + 23 * i)) X dX5_init_34 rfl 1 rfl ?_
      refine c_getf (z := tw_cz z (3 + 2 * i) (32 + 23 * i)) (ci := 5) (T := TX5) (f := 0) (k := 112) X dX5_init_35 _ tw_u328 tw_in5 rfl (by decide) (by omega) ((va_up_ne _ _ (by omega)).trans tw_cw_s) rfl ?_
      refine c_alenq (z := tw_cz z (3 + 2 * i) (32 + 23 * i)) (t0 := 2) (k := 115) X dX5_init_38 (by omega) (va_up_self _ _ _) rfl rfl ?_
      refine c_icmpge (z := tw_cz z (3 + 2 * i) (32 + 23 * i)) X dX5_init_39 (tgt := 61) (by decide) (fun _ => ?_) (fun h => absurd (show Int32.ofNat 9 ≤ Int32.ofNat 9 by decide) h)
      refine tw_Rc.cong2 (G := tw_cw (tw_E (tw_zB z) (tw_zC z) σ) F 112 (.inr (5, [.ref (tw_zB z + 115), .ref (tw_zB z + 113)])) 134) ?_ (fun q hq => ?_)
      · exact k_ret dX5_init_61 hQ rfl rfl (tw_cw_end (by omega) (by rw [tw_E5 (by decide +kernel : tw_kd 112 = 5)]; simp [tw_fs5, h0 112 (by omega) (by omega)]))
      · by_cases h : q = 115
        · right
          subst h
          refine ⟨_, _, _, _, va_up_self _ _ _, (tw_cw_g (by omega) (by omega)).trans ((tw_E15 (by decide +kernel)).trans (by rw [show tw_ln 115 = 9 from by decide +kernel])), fun j hj => ?_⟩
          show (if j < 9 then _ else none) = _
          rw [if_pos hj]
        · left
          exact va_up_ne _ _ h
    | succ r ih =>
      intro i hi
      refine c_iload_n (z := tw_cz z (3 + 2 * i) (32 + 23 * i)) X dX5_init_33 rfl 0 rfl ?_
      refine c_aload_n (z := tw_cz z (3 + 2 * i) (32 + 23 * i)) X dX5_init_34 rfl 1 rfl ?_
      refine c_getf (z := tw_cz z (3 + 2 * i) (32 + 23 * i)) (ci := 5) (T := TX5) (f := 0) (k := 112) X dX5_init_35 _ tw_u328 tw_in5 rfl (by decide) (by omega) ((va_up_ne _ _ (by omega)).trans tw_cw_s) rfl ?_
      refine c_alenq (z := tw_cz z (3 + 2 * i) (32 + 23 * i)) (t0 := 2) (k := 115) X dX5_init_38 (by omega) (va_up_self _ _ _) rfl rfl ?_
      refine c_icmpge (z := tw_cz z (3 + 2 * i) (32 + 23 * i)) X dX5_init_39 (tgt := 61) (by decide) (fun h => ?_) (fun _ => ?_)
      · exfalso
        have h1 := (tw_i32le (by omega) (by omega)).mp h
        omega
      refine c_aload_n (z := tw_cz z (3 + 2 * i) (32 + 23 * i)) X dX5_init_42 rfl 1 rfl ?_
      refine c_getf (z := tw_cz z (3 + 2 * i) (32 + 23 * i)) (ci := 5) (T := TX5) (f := 0) (k := 112) X dX5_init_43 _ tw_u328 tw_in5 rfl (by decide) (by omega) ((va_up_ne _ _ (by omega)).trans tw_cw_s) rfl ?_
      refine c_iload_n (z := tw_cz z (3 + 2 * i) (32 + 23 * i)) X dX5_init_46 rfl 0 rfl ?_
      refine k_new (ci := 0) (T := TX0) (N := 1) (fs := [.null]) (mm := (116 + 2 * i)) (c := 3 + 2 * i) (s := 32 + 23 * i) (c' := 3 + 2 * i + 1) (s' := 32 + 23 * i + 1) X dX5_init_47 _ tw_u325 tw_u130 tw_u90 tw_in0 tyX0 tyX0_ok rfl tw_df0 (by rw [eR]; show _ ≤ _; simp only []; omega) (by rw [eR]; show _ ≤ _; simp only []; omega) rfl rfl ?_
      refine c_dup (z := tw_cz z (3 + 2 * i + 1) (32 + 23 * i + 1)) X dX5_init_50 rfl ?_
      have hkn : tw_kd (116 + 2 * i) = 0 := (by decide : ∀ j, j < 9 → tw_kd (116 + 2 * j) = 0) i (by omega)
      refine c_initN (rm := { frames := 1, cells := 1, slots := 22, locals := 20 }) (z := tw_cz z (3 + 2 * i + 1) (32 + 23 * i + 1)) (mm := (116 + 2 * i) + 1) (mm' := (116 + 2 * i) + 2) (F' := tw_fin (tw_E (tw_zB z) (tw_zC z) σ) _ (116 + 2 * i) ((116 + 2 * i) + 2)) (As := []) X hAK (by show (tw_zs z).heap.size + (3 + 2 * i + 1) = tw_zB z + ((116 + 2 * i) + 1); omega) dX5_init_51 (tw_i_X0 (σ := σ) hkn (fun q a b => h0 q (by omega) (by omega)) (va_up_self _ _ _)) tw_y_X0_init (List.mem_of_getElem? tw_u132) rfl _ tw_u326 rfl ⟨rfl, rfl, (by show 1 + 1 ≤ (tw_zR z).frames; rw [eR]; exact Nat.le_of_ble_eq_true rfl), (by show 40 ≤ (tw_zR z).locals; rw [eR]; exact Nat.le_of_ble_eq_true rfl)⟩ ⟨(by show 3 + 2 * i + 1 + 1 ≤ (tw_zR z).cells; rw [eR]; show _ ≤ 21; omega), (by show 32 + 23 * i + 1 + 22 ≤ (tw_zR z).slots; rw [eR]; show _ ≤ 239; omega)⟩ (Nat.le_of_ble_eq_true rfl) rfl (by omega) (by show (116 + 2 * i) + 2 = (116 + 2 * i) + 1 + 1; omega) ?_
      show tw_Rc (tw_cz z (3 + 2 * i + 1 + 1) (32 + 23 * i + 1 + 22)) _ _ _ _ _
      refine tw_Rc.cong (G := va_up (tw_cw (tw_E (tw_zB z) (tw_zC z) σ) F 112 (.inr (5, [.ref (tw_zB z + 115), .ref (tw_zB z + 113)])) ((116 + 2 * i) + 2)) 115 (.inl (tw_zC z 2, 9, .inr (.inr (.inr (.inr (fun j => if j < i then some (tw_zB z + (115 + 1 + 2 * j)) else none))))))) ?_ (fun q hq => ?_)
      rotate_left
      · unfold tw_fin
        by_cases h1 : (116 + 2 * i) ≤ q
        · rw [if_pos ⟨h1, hq⟩, va_up_ne _ _ (by omega), tw_cw_g (by omega) hq]
        · rw [if_neg (by omega), va_up_ne _ _ (by omega)]
          by_cases h2 : q = 115
          · subst h2; rw [va_up_self, va_up_self]
          · rw [va_up_ne _ _ h2, va_up_ne _ _ h2]
            unfold tw_cw
            by_cases h3 : q = 112
            · rw [if_pos h3, if_pos h3]
            · rw [if_neg h3, if_neg h3]
              by_cases h4 : 112 < q
              · rw [if_pos ⟨h4, by omega⟩, if_pos ⟨h4, by omega⟩]
              · rw [if_neg (by omega), if_neg (by omega)]
      refine c_astq (z := tw_cz z (3 + 2 * i + 1 + 1) (32 + 23 * i + 1 + 22)) (ci := 0) (k := 115) (t0 := 2) (q := (116 + 2 * i)) (n := 9) X (by show (tw_zs z).heap.size + (3 + 2 * i + 1 + 1) = tw_zB z + ((116 + 2 * i) + 2); omega) dX5_init_54 (by omega) (by omega) (va_up_self _ _ _) rfl ((va_up_ne _ _ (by omega)).trans ((tw_cw_g (by omega) (by omega)).trans (tw_E0 hkn))) rfl (by intro h; rcases h with h | h; exact absurd h (by rw [show (0 : Int32) = Int32.ofNat 0 from rfl, Int32.lt_iff_toInt_lt, Int32.toInt_ofNat_of_lt (by omega), Int32.toInt_ofNat_of_lt (by omega)]; omega); rw [tw_i32n (by omega)] at h; omega) ?_
      refine c_iinc (z := tw_cz z (3 + 2 * i + 1 + 1) (32 + 23 * i + 1 + 22)) X dX5_init_55 0 rfl (tw_i32s i) (by decide) (L' := [(2, .int (Int32.ofNat (i + 1))), (0, .ref (tw_zB z + 112))]) rfl ?_
      refine c_goto (z := tw_cz z (3 + 2 * i + 1 + 1) (32 + 23 * i + 1 + 22)) X dX5_init_58 (tgt := 33) (by decide) ?_
      have ih1 := ih (i + 1) (by omega)
      rw [show 3 + 2 * (i + 1) = 3 + 2 * i + 1 + 1 from by omega, show 32 + 23 * (i + 1) = 32 + 23 * i + 1 + 22 from by omega, show 116 + 2 * (i + 1) = (116 + 2 * i) + 2 from by omega] at ih1
      refine tw_Rc.cong ih1 (fun q hq => ?_)
      by_cases h2 : q = 115
      · subst h2
        rw [va_up_self, va_up_self, tw_i32n (by omega)]
        congr 6
        funext j
        unfold va_up
        by_cases h3 : j = i
        · subst h3; rw [if_pos rfl, if_pos (Nat.lt_succ_self _)]; congr 1; omega
        · rw [if_neg h3]
          by_cases h4 : j < i
          · rw [if_pos h4, if_pos (by omega)]
          · rw [if_neg h4, if_neg (by omega)]
      · rw [va_up_ne _ _ h2, va_up_ne _ _ h2, va_up_ne _ _ h2]
  have h := loop 9 0 (by omega)
  refine tw_Rc.sub [0, 1] rfl ?_
  refine tw_Rc.cong h (fun q hq => ?_)
  unfold va_up tw_cw
  by_cases h2 : q = 115
  · subst h2; rfl
  · rw [if_neg h2]
set_option maxRecDepth 100000 in
set_option maxHeartbeats 4000000 in
theorem tw_i_X4 {l : Launch} {B : Nat} {D : va_G} {C : Nat → ClassId} {S : Nat → Nat} {σ : tw_Sg} {F : Nat → va_E} (h0 : ∀ q, 142 ≤ q → q < 400 → σ q = fun _ => 0) (hF : F 142 = .inr (4, [.null, .int 0, .int 0])) : tw_MetC l B D C S yX4_init cX4_init 2 { frames := 4, cells := 257, slots := 2560, locals := 81 } [.ref (B + 142)] F 143 (tw_fin (tw_E B C σ) F 142 400) 400 := by
  refine tw_metOfC (by decide +kernel) (Nat.le_of_ble_eq_true rfl) ?_
  intro z el eB eD eC eS eR ec es hz hAK hnm X hret hQ
  subst el eB eD eC eS
  have X : tw_X z cX4_init "TreasureWalk$History" 2 := X
  show tw_Rc z F 143 0 [(0, .ref (tw_zB z + 142))] []
  refine tw_Rc.z0 ec es ?_
  refine tw_Rc.cong ?_ (tw_cw_0 (G := tw_E (tw_zB z) (tw_zC z) σ) hF)
  refine c_aload_n (z := tw_cz z 0 0) X dX4_init_0 rfl 0 rfl ?_
  refine c_obj (z := tw_cz z 0 0) X dX4_init_1 _ tw_u390 (List.mem_of_getElem? tw_u121) (List.mem_of_getElem? tw_u122) (by show 1 ≤ (tw_zR z).frames; rw [eR]; exact Nat.le_of_ble_eq_true rfl) (by show 20 ≤ (tw_zR z).locals; rw [eR]; exact Nat.le_of_ble_eq_true rfl) (Nat.le_of_ble_eq_true rfl) ?_
  refine c_aload_n (z := tw_cz z 0 0) X dX4_init_4 rfl 0 rfl ?_
  refine c_bipush (z := tw_cz z 0 0) X dX4_init_5 (v := (8 : Int32)) (by decide) ?_
  refine c_newq (t0 := 3) (N := 8) (z := tw_cz z 0 0) X dX4_init_7 _ tw_u391 hAK.2.2 rfl (by decide) (by decide) (by omega) (by rw [eR]; show _ ≤ _; exact Nat.le_of_ble_eq_true rfl) (by rw [eR]; exact Nat.le_of_ble_eq_true rfl) ?_
  show tw_Rc (tw_cz z 1 8) (va_up (tw_cw (tw_E (tw_zB z) (tw_zC z) σ) F 142 (.inr (4, [.null, .int 0, .int 0])) 143) 143 (.inl (tw_zC z 3, 8, .inr (.inr (.inr (.inr (fun _ => none))))))) (143 + 1) 10 _ _
  refine c_putF (z := tw_cz z 1 8) (ci := 4) (T := TX4) (f := 0) (ty := .array (.object "TreasureWalk$Data")) X hnm (by show (tw_zs z).heap.size + 1 = tw_zB z + _; omega) dX4_init_10 _ tw_u394 tw_in4 tyX4 tyX4_ok nmX4 rfl (by decide) rfl rfl (by decide +kernel) rfl rfl (by omega) ((va_up_ne _ _ (by omega)).trans tw_cw_s) (Nat.le_of_ble_eq_true rfl) ?_
  refine c_iconst (z := tw_cz z 1 8) X dX4_init_13 (v := (0 : Int32)) (by decide) ?_
  refine c_istore_n (z := tw_cz z 1 8) X dX4_init_14 rfl (by decide) (L' := [(1, .int 0), (0, .ref (tw_zB z + 142))]) rfl ?_
  have loop : ∀ r i : Nat, i + r = 8 → tw_Rc (tw_cz z (1 + 32 * i) (8 + 319 * i)) (va_up (tw_cw (tw_E (tw_zB z) (tw_zC z) σ) F 142 (.inr (4, [.ref (tw_zB z + 143), .int 0, .int 0])) (144 + 32 * i)) 143 (.inl (tw_zC z 3, 8, .inr (.inr (.inr (.inr (fun j => if j < i then some (tw_zB z + (143 + 1 + 32 * j)) else none))))))) (144 + 32 * i) 15 [(1, .int (Int32.ofNat i)), (0, .ref (tw_zB z + 142))] [] := by
    intro r
    induction r with
    | zero =>
      intro i hi
      have hi : i = 8 := by omega
      subst hi
      refine c_iload_n (z := tw_cz z (1 + 32 * i) (8 + 319 * i)) X dX4_init_15 rfl 0 rfl ?_
      refine c_aload_n (z := tw_cz z (1 + 32 * i) (8 + 319 * i)) X dX4_init_16 rfl 1 rfl ?_
      refine c_getf (z := tw_cz z (1 + 32 * i) (8 + 319 * i)) (ci := 4) (T := TX4) (f := 0) (k := 142) X dX4_init_17 _ tw_u394 tw_in4 rfl (by decide) (by omega) ((va_up_ne _ _ (by omega)).trans tw_cw_s) rfl ?_
      refine c_alenq (z := tw_cz z (1 + 32 * i) (8 + 319 * i)) (t0 := 3) (k := 143) X dX4_init_20 (by omega) (va_up_self _ _ _) rfl rfl ?_
      refine c_icmpge (z := tw_cz z (1 + 32 * i) (8 + 319 * i)) X dX4_init_21 (tgt := 43) (by decide) (fun _ => ?_) (fun h => absurd (show Int32.ofNat 8 ≤ Int32.ofNat 8 by decide) h)
      refine tw_Rc.cong2 (G := tw_cw (tw_E (tw_zB z) (tw_zC z) σ) F 142 (.inr (4, [.ref (tw_zB z + 143), .int 0, .int 0])) 400) ?_ (fun q hq => ?_)
      · exact k_ret dX4_init_43 hQ rfl rfl (tw_cw_end (by omega) (by rw [tw_E4 (by decide +kernel : tw_kd 142 = 4)]; simp [tw_fs4, h0 142 (by omega) (by omega)]))
      · by_cases h : q = 143
        · right
          subst h
          refine ⟨_, _, _, _, va_up_self _ _ _, (tw_cw_g (by omega) (by omega)).trans ((tw_E16 (by decide +kernel)).trans (by rw [show tw_ln 143 = 8 from by decide +kernel])), fun j hj => ?_⟩
          show (if j < 8 then _ else none) = _
          rw [if_pos hj]
        · left
          exact va_up_ne _ _ h
    | succ r ih =>
      intro i hi
      refine c_iload_n (z := tw_cz z (1 + 32 * i) (8 + 319 * i)) X dX4_init_15 rfl 0 rfl ?_
      refine c_aload_n (z := tw_cz z (1 + 32 * i) (8 + 319 * i)) X dX4_init_16 rfl 1 rfl ?_
      refine c_getf (z := tw_cz z (1 + 32 * i) (8 + 319 * i)) (ci := 4) (T := TX4) (f := 0) (k := 142) X dX4_init_17 _ tw_u394 tw_in4 rfl (by decide) (by omega) ((va_up_ne _ _ (by omega)).trans tw_cw_s) rfl ?_
      refine c_alenq (z := tw_cz z (1 + 32 * i) (8 + 319 * i)) (t0 := 3) (k := 143) X dX4_init_20 (by omega) (va_up_self _ _ _) rfl rfl ?_
      refine c_icmpge (z := tw_cz z (1 + 32 * i) (8 + 319 * i)) X dX4_init_21 (tgt := 43) (by decide) (fun h => ?_) (fun _ => ?_)
      · exfalso
        have h1 := (tw_i32le (by omega) (by omega)).mp h
        omega
      refine c_aload_n (z := tw_cz z (1 + 32 * i) (8 + 319 * i)) X dX4_init_24 rfl 1 rfl ?_
      refine c_getf (z := tw_cz z (1 + 32 * i) (8 + 319 * i)) (ci := 4) (T := TX4) (f := 0) (k := 142) X dX4_init_25 _ tw_u394 tw_in4 rfl (by decide) (by omega) ((va_up_ne _ _ (by omega)).trans tw_cw_s) rfl ?_
      refine c_iload_n (z := tw_cz z (1 + 32 * i) (8 + 319 * i)) X dX4_init_28 rfl 0 rfl ?_
      refine k_new (ci := 2) (T := TX2) (N := 14) (fs := [.int 0, .int 0, .null, .null, .null, .int 0, .null, .null, .null, .null, .int 0, .int 0, .int 0, .int 0]) (mm := (144 + 32 * i)) (c := 1 + 32 * i) (s := 8 + 319 * i) (c' := 1 + 32 * i + 1) (s' := 8 + 319 * i + 14) X dX4_init_29 _ tw_u391 tw_u124 tw_u89 tw_in2 tyX2 tyX2_ok rfl tw_df2 (by rw [eR]; show _ ≤ _; simp only []; omega) (by rw [eR]; show _ ≤ _; simp only []; omega) rfl rfl ?_
      refine c_dup (z := tw_cz z (1 + 32 * i + 1) (8 + 319 * i + 14)) X dX4_init_32 rfl ?_
      have hkn : tw_kd (144 + 32 * i) = 2 := (by decide : ∀ j, j < 8 → tw_kd (144 + 32 * j) = 2) i (by omega)
      refine c_initN (rm := { frames := 3, cells := 31, slots := 305, locals := 61 }) (z := tw_cz z (1 + 32 * i + 1) (8 + 319 * i + 14)) (mm := (144 + 32 * i) + 1) (mm' := (144 + 32 * i) + 32) (F' := tw_fin (tw_E (tw_zB z) (tw_zC z) σ) _ (144 + 32 * i) ((144 + 32 * i) + 32)) (As := []) X hAK (by show (tw_zs z).heap.size + (1 + 32 * i + 1) = tw_zB z + ((144 + 32 * i) + 1); omega) dX4_init_33 (tw_i_X2 (σ := σ) hkn (fun q a b => h0 q (by omega) (by omega)) (va_up_self _ _ _)) tw_y_X2_init (List.mem_of_getElem? tw_u126) rfl _ tw_u393 rfl ⟨rfl, rfl, (by show 3 + 1 ≤ (tw_zR z).frames; rw [eR]; exact Nat.le_of_ble_eq_true rfl), (by show 81 ≤ (tw_zR z).locals; rw [eR]; exact Nat.le_of_ble_eq_true rfl)⟩ ⟨(by show 1 + 32 * i + 1 + 31 ≤ (tw_zR z).cells; rw [eR]; show _ ≤ 257; omega), (by show 8 + 319 * i + 14 + 305 ≤ (tw_zR z).slots; rw [eR]; show _ ≤ 2560; omega)⟩ (Nat.le_of_ble_eq_true rfl) rfl (by omega) (by show (144 + 32 * i) + 32 = (144 + 32 * i) + 1 + 31; omega) ?_
      show tw_Rc (tw_cz z (1 + 32 * i + 1 + 31) (8 + 319 * i + 14 + 305)) _ _ _ _ _
      refine tw_Rc.cong (G := va_up (tw_cw (tw_E (tw_zB z) (tw_zC z) σ) F 142 (.inr (4, [.ref (tw_zB z + 143), .int 0, .int 0])) ((144 + 32 * i) + 32)) 143 (.inl (tw_zC z 3, 8, .inr (.inr (.inr (.inr (fun j => if j < i then some (tw_zB z + (143 + 1 + 32 * j)) else none))))))) ?_ (fun q hq => ?_)
      rotate_left
      · unfold tw_fin
        by_cases h1 : (144 + 32 * i) ≤ q
        · rw [if_pos ⟨h1, hq⟩, va_up_ne _ _ (by omega), tw_cw_g (by omega) hq]
        · rw [if_neg (by omega), va_up_ne _ _ (by omega)]
          by_cases h2 : q = 143
          · subst h2; rw [va_up_self, va_up_self]
          · rw [va_up_ne _ _ h2, va_up_ne _ _ h2]
            unfold tw_cw
            by_cases h3 : q = 142
            · rw [if_pos h3, if_pos h3]
            · rw [if_neg h3, if_neg h3]
              by_cases h4 : 142 < q
              · rw [if_pos ⟨h4, by omega⟩, if_pos ⟨h4, by omega⟩]
              · rw [if_neg (by omega), if_neg (by omega)]
      refine c_astq (z := tw_cz z (1 + 32 * i + 1 + 31) (8 + 319 * i + 14 + 305)) (ci := 2) (k := 143) (t0 := 3) (q := (144 + 32 * i)) (n := 8) X (by show (tw_zs z).heap.size + (1 + 32 * i + 1 + 31) = tw_zB z + ((144 + 32 * i) + 32); omega) dX4_init_36 (by omega) (by omega) (va_up_self _ _ _) rfl ((va_up_ne _ _ (by omega)).trans ((tw_cw_g (by omega) (by omega)).trans (tw_E2 hkn))) rfl (by intro h; rcases h with h | h; exact absurd h (by rw [show (0 : Int32) = Int32.ofNat 0 from rfl, Int32.lt_iff_toInt_lt, Int32.toInt_ofNat_of_lt (by omega), Int32.toInt_ofNat_of_lt (by omega)]; omega); rw [tw_i32n (by omega)] at h; omega) ?_
      refine c_iinc (z := tw_cz z (1 + 32 * i + 1 + 31) (8 + 319 * i + 14 + 305)) X dX4_init_37 0 rfl (tw_i32s i) (by decide) (L' := [(1, .int (Int32.ofNat (i + 1))), (0, .ref (tw_zB z + 142))]) rfl ?_
      refine c_goto (z := tw_cz z (1 + 32 * i + 1 + 31) (8 + 319 * i + 14 + 305)) X dX4_init_40 (tgt := 15) (by decide) ?_
      have ih1 := ih (i + 1) (by omega)
      rw [show 1 + 32 * (i + 1) = 1 + 32 * i + 1 + 31 from by omega, show 8 + 319 * (i + 1) = 8 + 319 * i + 14 + 305 from by omega, show 144 + 32 * (i + 1) = (144 + 32 * i) + 32 from by omega] at ih1
      refine tw_Rc.cong ih1 (fun q hq => ?_)
      by_cases h2 : q = 143
      · subst h2
        rw [va_up_self, va_up_self, tw_i32n (by omega)]
        congr 6
        funext j
        unfold va_up
        by_cases h3 : j = i
        · subst h3; rw [if_pos rfl, if_pos (Nat.lt_succ_self _)]; congr 1; omega
        · rw [if_neg h3]
          by_cases h4 : j < i
          · rw [if_pos h4, if_pos (by omega)]
          · rw [if_neg h4, if_neg (by omega)]
      · rw [va_up_ne _ _ h2, va_up_ne _ _ h2, va_up_ne _ _ h2]
  have h := loop 8 0 (by omega)
  refine tw_Rc.sub [0, 1] rfl ?_
  refine tw_Rc.cong h (fun q hq => ?_)
  unfold va_up tw_cw
  by_cases h2 : q = 143
  · subst h2; rfl
  · rw [if_neg h2]
set_option maxRecDepth 100000 in
set_option maxHeartbeats 4000000 in
theorem tw_i_X10 {l : Launch} {B : Nat} {D : va_G} {C : Nat → ClassId} {S : Nat → Nat} {σ : tw_Sg} {F : Nat → va_E} (h0 : ∀ q, 33 ≤ q → q < 134 → σ q = fun _ => 0) (hF : F 33 = .inr (10, [.null, .null, .null, .null])) : tw_MetC l B D C S yX10_init cX10_init 2 { frames := 3, cells := 100, slots := 1835, locals := 62 } [.ref (B + 33), .ref (B + 1)] F 34 (tw_fin (tw_E B C σ) F 33 134) 134 := by
  refine tw_metOfC (by decide +kernel) (Nat.le_of_ble_eq_true rfl) ?_
  intro z el eB eD eC eS eR ec es hz hAK hnm X hret hQ
  subst el eB eD eC eS
  have X : tw_X z cX10_init "TreasureWalk$Trails" 2 := X
  show tw_Rc z F 34 0 [(0, .ref (tw_zB z + 33)), (1, .ref (tw_zB z + 1))] []
  refine tw_Rc.z0 ec es ?_
  refine tw_Rc.cong ?_ (tw_cw_0 (G := tw_E (tw_zB z) (tw_zC z) σ) hF)
  refine c_aload_n (z := tw_cz z 0 0) X dX10_init_0 rfl 0 rfl ?_
  refine c_obj (z := tw_cz z 0 0) X dX10_init_1 _ tw_u316 (List.mem_of_getElem? tw_u121) (List.mem_of_getElem? tw_u122) (by show 1 ≤ (tw_zR z).frames; rw [eR]; exact Nat.le_of_ble_eq_true rfl) (by show 20 ≤ (tw_zR z).locals; rw [eR]; exact Nat.le_of_ble_eq_true rfl) (Nat.le_of_ble_eq_true rfl) ?_
  refine c_aload_n (z := tw_cz z 0 0) X dX10_init_4 rfl 0 rfl ?_
  refine k_new (ci := 7) (T := TX7) (N := 1) (fs := [.null]) (mm := 34) (c := 0) (s := 0) (c' := 1) (s' := 1) X dX10_init_5 _ tw_u317 tw_u141 tw_u91 tw_in7 tyX7 tyX7_ok rfl tw_df7 (by rw [eR]; exact Nat.le_of_ble_eq_true rfl) (by rw [eR]; exact Nat.le_of_ble_eq_true rfl) rfl rfl ?_
  refine c_dup (z := tw_cz z 1 1) X dX10_init_8 rfl ?_
  refine c_sipush (z := tw_cz z 1 1) X dX10_init_9 (v := (704 : Int32)) (by decide) ?_
  refine k_init (rm := { frames := 1, cells := 1, slots := 704, locals := 20 }) (c := 1) (s := 1) (c' := 2) (s' := 705) (m := 34) (m' := 36) (As := [.int 704]) X hAK hz (by omega) dX10_init_12 (tw_i_X7 (σ := σ) (N := 704) (by decide +kernel) (by decide +kernel) rfl (by decide) (fun q a b => h0 q (by omega) (by omega)) (va_up_self _ _ _)) tw_y_X7_init tw_u143 rfl _ tw_u318 rfl (by rw [eR]; exact Nat.le_of_ble_eq_true rfl) (by rw [eR]; exact Nat.le_of_ble_eq_true rfl) (by rw [eR]; exact Nat.le_of_ble_eq_true rfl) (by rw [eR]; exact Nat.le_of_ble_eq_true rfl) rfl rfl (Nat.le_of_ble_eq_true rfl) rfl (by omega) (by omega) ?_
  refine k_putF (ci := 10) (T := TX10) (f := 1) (fs' := [.null, .ref (tw_zB z + 34), .null, .null]) (ty := .object "TreasureWalk$Row") X hnm hz (by omega) dX10_init_15 _ tw_u336 tw_in10 tyX10 tyX10_ok nmX10 rfl (by decide) rfl rfl (by decide +kernel) rfl rfl (by omega) (Nat.le_of_ble_eq_true rfl) rfl ?_
  refine c_aload_n (z := tw_cz z 2 705) X dX10_init_18 rfl 0 rfl ?_
  refine k_new (ci := 5) (T := TX5) (N := 2) (fs := [.null, .null]) (mm := 36) (c := 2) (s := 705) (c' := 3) (s' := 707) X dX10_init_19 _ tw_u319 tw_u320 tw_u95 tw_in5 tyX5 tyX5_ok rfl tw_df5 (by rw [eR]; exact Nat.le_of_ble_eq_true rfl) (by rw [eR]; exact Nat.le_of_ble_eq_true rfl) rfl rfl ?_
  refine c_dup (z := tw_cz z 3 707) X dX10_init_22 rfl ?_
  refine c_bipush (z := tw_cz z 3 707) X dX10_init_23 (v := (36 : Int32)) (by decide) ?_
  refine k_init (rm := { frames := 2, cells := 75, slots := 887, locals := 40 }) (c := 3) (s := 707) (c' := 78) (s' := 1594) (m := 36) (m' := 112) (As := [.int 36]) X hAK hz (by omega) dX10_init_25 (tw_i_X5_36 (σ := σ) (fun q a b => h0 q (by omega) (by omega)) (va_up_self _ _ _)) tw_y_X5_init tw_u322 rfl _ tw_u321 rfl (by rw [eR]; exact Nat.le_of_ble_eq_true rfl) (by rw [eR]; exact Nat.le_of_ble_eq_true rfl) (by rw [eR]; exact Nat.le_of_ble_eq_true rfl) (by rw [eR]; exact Nat.le_of_ble_eq_true rfl) rfl rfl (Nat.le_of_ble_eq_true rfl) rfl (by omega) (by omega) ?_
  refine k_putF (ci := 10) (T := TX10) (f := 2) (fs' := [.null, .ref (tw_zB z + 34), .ref (tw_zB z + 36), .null]) (ty := .object "TreasureWalk$Layers") X hnm hz (by omega) dX10_init_28 _ tw_u337 tw_in10 tyX10 tyX10_ok nmX10 rfl (by decide) rfl rfl (by decide +kernel) rfl rfl (by omega) (Nat.le_of_ble_eq_true rfl) rfl ?_
  refine c_aload_n (z := tw_cz z 78 1594) X dX10_init_31 rfl 0 rfl ?_
  refine k_new (ci := 5) (T := TX5) (N := 2) (fs := [.null, .null]) (mm := 112) (c := 78) (s := 1594) (c' := 79) (s' := 1596) X dX10_init_32 _ tw_u319 tw_u320 tw_u95 tw_in5 tyX5 tyX5_ok rfl tw_df5 (by rw [eR]; exact Nat.le_of_ble_eq_true rfl) (by rw [eR]; exact Nat.le_of_ble_eq_true rfl) rfl rfl ?_
  refine c_dup (z := tw_cz z 79 1596) X dX10_init_35 rfl ?_
  refine c_bipush (z := tw_cz z 79 1596) X dX10_init_36 (v := (9 : Int32)) (by decide) ?_
  refine k_init (rm := { frames := 2, cells := 21, slots := 239, locals := 40 }) (c := 79) (s := 1596) (c' := 100) (s' := 1835) (m := 112) (m' := 134) (As := [.int 9]) X hAK hz (by omega) dX10_init_38 (tw_i_X5_9 (σ := σ) (fun q a b => h0 q (by omega) (by omega)) (va_up_self _ _ _)) tw_y_X5_init tw_u322 rfl _ tw_u321 rfl (by rw [eR]; exact Nat.le_of_ble_eq_true rfl) (by rw [eR]; exact Nat.le_of_ble_eq_true rfl) (by rw [eR]; exact Nat.le_of_ble_eq_true rfl) (by rw [eR]; exact Nat.le_of_ble_eq_true rfl) rfl rfl (Nat.le_of_ble_eq_true rfl) rfl (by omega) (by omega) ?_
  refine k_putF (ci := 10) (T := TX10) (f := 3) (fs' := [.null, .ref (tw_zB z + 34), .ref (tw_zB z + 36), .ref (tw_zB z + 112)]) (ty := .object "TreasureWalk$Layers") X hnm hz (by omega) dX10_init_41 _ tw_u338 tw_in10 tyX10 tyX10_ok nmX10 rfl (by decide) rfl rfl (by decide +kernel) rfl rfl (by omega) (Nat.le_of_ble_eq_true rfl) rfl ?_
  refine c_aload_n (z := tw_cz z 100 1835) X dX10_init_44 rfl 0 rfl ?_
  refine c_aload_n (z := tw_cz z 100 1835) X dX10_init_45 rfl 1 rfl ?_
  refine k_putF (ci := 10) (T := TX10) (f := 0) (fs' := [.ref (tw_zB z + 1), .ref (tw_zB z + 34), .ref (tw_zB z + 36), .ref (tw_zB z + 112)]) (ty := .object "TreasureWalk$Data") X hnm hz (by omega) dX10_init_46 _ tw_u335 tw_in10 tyX10 tyX10_ok nmX10 rfl (by decide) rfl rfl (by decide +kernel) rfl rfl (by omega) (Nat.le_of_ble_eq_true rfl) rfl ?_
  exact k_ret dX10_init_49 hQ rfl rfl (tw_cw_end (by omega) (by rw [tw_E10 (by decide +kernel : tw_kd 33 = 10)]; simp [tw_fs10, h0 33 (by omega) (by omega)]))
