/-! THE CONSTRUCTORS: rows over a world that grows. F: what the cells hold; mm: how many there are. -/
def tw_Rc (z : tw_Z) (F : Nat → va_E) (mm : Nat) (pc : Nat) (L : List (Nat × Value)) (st : List Value) : Prop :=
  ∀ (H : Heap) (locs : List Loc) (ls : Array Slot), va_P (tw_zD z).1 vwCl (tw_wl (tw_zB z) F mm) H → H.size = tw_zB z + mm → tw_SS z H locs → lv_has ls (tw_znL z) L → tw_W z H locs (F0 (tw_zm z) pc ls st)
theorem tw_Pcong {B mm : Nat} {D : va_G} {F G : Nat → va_E} {H : Heap} (h : va_P D vwCl (tw_wl B F mm) H) (he : ∀ k, k < mm → F k = G k) : va_P D vwCl (tw_wl B G mm) H := by rw [← tw_wl_cong he]; exact h
theorem tw_Rc.cong {z : tw_Z} {F G : Nat → va_E} {mm pc : Nat} {L : List (Nat × Value)} {st : List Value} (h : tw_Rc z G mm pc L st) (he : ∀ k, k < mm → F k = G k) : tw_Rc z F mm pc L st := fun H locs ls hP hz hS hl => h H locs ls (tw_Pcong hP he) hz hS hl
/-- one cell more -/
theorem tw_Ppush {B mm : Nat} {D : va_G} {F : Nat → va_E} {H H1 : Heap} {e : va_E} (h : va_P D vwCl (tw_wl B F mm) H) (hz : H.size = B + mm) (o1 : ∀ q, q < B + mm → H1[q]? = H[q]?) (he : va_at D vwCl (B + mm, e) H1) : va_P D vwCl (tw_wl B (va_up F mm e) (mm + 1)) H1 := by
  intro k q hk
  obtain ⟨h1, rfl⟩ := tw_wl_len hk
  by_cases h2 : k = mm
  · subst h2
    have : va_up F k e k = e := by simp [va_up]
    rw [this]; exact he
  · have h3 : k < mm := by omega
    have : va_up F mm e k = F k := by simp [va_up, h2]
    rw [this]
    exact (h k (B + k, F k) (tw_wl_get h3)).kept (o1 _ (by show B + k < B + mm; omega))
theorem tw_SSpush {A : Nat → Prop} {H0 H H1 : Heap} {locs : List Loc} {b : Nat} (hS : va_S A H0 H locs) (hz : H.size = b) (z1 : H1.size = b + 1) (o1 : ∀ q, q < b → H1[q]? = H[q]?) : va_S A H0 H1 locs :=
  ⟨Nat.le_trans hS.1 (by rw [hz, z1]; exact Nat.le_succ _), fun x h1 h2 => (o1 x (Nat.lt_of_lt_of_le h1 (hz ▸ hS.1))).trans (hS.2.1 x h1 h2), hS.2.2⟩
/-- how many cells there are, out of the room spent and the last cell of the world -/
theorem tw_size {z : tw_Z} {F : Nat → va_E} {mm : Nat} {H : Heap} {locs : List Loc} {g : JFrame} (hm : 0 < mm) (hn : (tw_zs z).heap.size + tw_zcells z = tw_zB z + mm) (hP : va_P (tw_zD z).1 vwCl (tw_wl (tw_zB z) F mm) H) (k : H.size = tw_zB z + mm → tw_W z H locs g) : tw_W z H locs g := by
  intro T hT X
  have h1 := (hP (mm - 1) _ (tw_wl_get (by omega))).lt
  have h2 : (T.setVm (tw_zs z).vm).heap.size ≤ (tw_zs z).heap.size + tw_zcells z := X.same.2.2.1
  have h3 : T.heap.size ≤ (tw_zs z).heap.size + tw_zcells z := h2
  rw [hT] at h3
  have h4 : tw_zB z + (mm - 1) < H.size := h1
  exact k (by omega) T hT X
section TWN
variable {z : tw_Z} {cc : ByteArray} {own : String} {nL pc mm : Nat} {F : Nat → va_E} {L : List (Nat × Value)} {st : List Value}
theorem c_newi {N : Nat} {n : Int32} (X : tw_X z cc own nL) (d : decode cc pc = .ok (.newarray .int, 2)) (hn : ¬ n < 0) (hN : n.toNatClampNeg = N) (hb : N * 4 ≤ 536870912) (hc : tw_zcells z + 1 ≤ (tw_zR z).cells) (hs : tw_zslots z + N ≤ (tw_zR z).slots) (hw : (Cond.arrayClass .int).before (tw_zargs z) (tw_zs z) = true)
    (kk : tw_Rc (tw_cz z (tw_zcells z + 1) (tw_zslots z + N)) (va_up F mm (.inl (tw_zC z 0, N, .inl (fun _ => 0)))) (mm + 1) (pc + 2) L (.ref (tw_zB z + mm) :: st)) : tw_Rc z F mm pc L (.int n :: st) := by
  intro H locs ls hP hz hS hl
  refine va_newaK X.1 X.2.1 (atype := .int) hw rfl d rfl hn hN hb hc hs hz fun H1 cA e1 z1 o1 _ hf => ?_
  have hA : cA = tw_zC z 0 := Option.some.inj (hf.symm.trans ((X.2.2.2.2.2.1.2.1.2 0 _ rfl).2))
  subst hA
  exact kk H1 locs ls (tw_Ppush hP hz o1 e1) z1 (tw_SSpush hS hz z1 o1) hl
theorem c_new {ci ix N : Nat} {Cn : String} {T : u_T} {fs : List Value} (X : tw_X z cc own nL) (d : decode cc pc = .ok (.new ix, 3)) (i : Nat) (hi : lw_tbl[i]? = some (.classLink own ix Cn)) (hinst : Cond.instantiable Cn N ∈ lw_tbl) (hini : Cond.initialized Cn ∈ lw_tbl) (hin : ∀ w ∈ u_ws Cn T N, w ∈ tw_AW) (ty : Nat → FieldType) (hty : ∀ k, k < N → parseFieldDescriptor (T k).2.2.1 = some (ty k)) (hcl : vwCl[ci]? = some (Cn, T, N)) (hfs : ∀ j, j < N → defaultValue (ty j) = vp_V fs j) (hc : tw_zcells z + 1 ≤ (tw_zR z).cells) (hs : tw_zslots z + N ≤ (tw_zR z).slots)
    (kk : tw_Rc (tw_cz z (tw_zcells z + 1) (tw_zslots z + N)) (va_up F mm (.inr (ci, fs))) (mm + 1) (pc + 3) L (.ref (tw_zB z + mm) :: st)) : tw_Rc z F mm pc L st := by
  intro H locs ls hP hz hS hl
  have hKn := X.2.2.2.2.2.1.2.1.1 ci _ hcl
  refine W.newcK X.1 X.2.1 X.ow (X.ws i hi rfl) (tw_wd X hinst rfl) (tw_wd X hini rfl) rfl d hc hs hKn.2.1 hz fun H1 kC hkC e1 z1 o1 => ?_
  exact kk H1 locs ls (tw_Ppush hP hz o1 ⟨_, hcl, (u_born (s := tw_zs z) (args := #[]) ty (X.2.2.2.2.2.1.1.all) hin hKn hkC e1 hty).to hfs⟩) z1 (tw_SSpush hS hz z1 o1) hl
theorem c_newq {ix t0 N : Nat} {n : Int32} {cA : ClassId} {Cn : String} (X : tw_X z cc own nL) (d : decode cc pc = .ok (.anewarray ix, 3)) (i : Nat) (hi : lw_tbl[i]? = some (.classLink own ix Cn)) (hover : va_AO Cn (tw_zs z)) (ht : (tw_tys (tw_zC z))[t0]? = some (cA, .object Cn)) (hn : ¬ n < 0) (hN : n.toNatClampNeg = N) (hb : N * 4 ≤ 536870912) (hc : tw_zcells z + 1 ≤ (tw_zR z).cells) (hs : tw_zslots z + N ≤ (tw_zR z).slots)
    (kk : tw_Rc (tw_cz z (tw_zcells z + 1) (tw_zslots z + N)) (va_up F mm (.inl (cA, N, .inr (.inr (.inr (.inr (fun _ => none))))))) (mm + 1) (pc + 3) L (.ref (tw_zB z + mm) :: st)) : tw_Rc z F mm pc L (.int n :: st) := by
  intro H locs ls hP hz hS hl
  subst hN
  refine W.anew X.1 X.2.1 X.ow (X.ws i hi rfl) (va_AO.use hover) rfl d rfl hn hb hc hs fun cA' kA comp f1 f2 f3 f4 => ?_
  obtain ⟨-, _, _, _, _, _, g⟩ := X.2.2.2.2.2.1.2.1.2 t0 _ ht
  cases Option.some.inj (f1.symm.trans g)
  generalize hH1 : H.push ({ cls := cA, slots := Array.replicate n.toNatClampNeg .null, vm := .none } : Cell) = H1
  have z1 : H1.size = H.size + 1 := by rw [← hH1, Array.size_push]
  have e1 : H1[H.size]? = some (arrV cA n.toNatClampNeg (fun _ => .null)) := by rw [← hH1, Array.getElem?_push_size, ← arrV_new]
  have o1 : ∀ q : Nat, q < H.size → H1[q]? = H[q]? := fun q hq => by rw [← hH1, Array.getElem?_push, if_neg (Nat.ne_of_lt hq)]
  rw [hz] at z1 e1 o1
  rw [hz]
  exact kk H1 locs ls (tw_Ppush hP hz o1 e1) z1 (tw_SSpush hS hz z1 o1) hl
theorem c_putF {ci k f ix N : Nat} {Cn : String} {T : u_T} {fs : List Value} {ty : FieldType} {v : Value} (X : tw_X z cc own nL) (hmeth : (tw_zmeth z).name = "<init>") (hsz : (tw_zs z).heap.size + tw_zcells z = tw_zB z + mm) (d : decode cc pc = .ok (.putfield ix, 3)) (i : Nat) (hi : lw_tbl[i]? = some (.fieldLink own ix (T f).1 (T f).2.1 (T f).2.2.1)) (hin : ∀ w ∈ u_ws Cn T N, w ∈ tw_AW) (ty0 : Nat → FieldType) (hty : ∀ k, k < N → parseFieldDescriptor (T k).2.2.1 = some (ty0 k)) (hnm : ∀ a, a < N → ∀ b, b < N → a ≠ b → (T a).2.1 ≠ (T b).2.1) (hc : vwCl[ci]? = some (Cn, T, N)) (hf : f < N) (hfin : (T f).2.2.2 = true) (hdecl : (T f).1 = own) (hd : parseFieldDescriptor (T f).2.2.1 = some ty) (hn : narrow ty v = v) (hfit : fits ty v = true) (hk : k < mm) (hE0 : F k = .inr (ci, fs)) (hfl : f < fs.length)
    (kk : tw_Rc z (va_up F k (.inr (ci, fs.set f v))) mm (pc + 3) L st) : tw_Rc z F mm pc L (v :: .ref (tw_zB z + k) :: st) := by
  intro H locs ls hP hz hS hl
  refine va_putF X.1 X.2.1 X.all hin ty0 hty hnm X.ow X.K hP tw_wl_D0 hS k ((tw_wl_get hk).trans (congrArg (fun e => some (tw_zB z + k, e)) hE0)) hc f hf (X.ws i hi rfl) (fun _ h => h) hfin hmeth hdecl hd hn hfit hfl d (fun H1 locs1 hP1 _ hS1 => ?_)
  rw [tw_wl_set] at hP1
  exact tw_size (Nat.lt_of_le_of_lt (Nat.zero_le _) hk) hsz hP1 (fun h => kk H1 locs1 ls hP1 h hS1 hl)
theorem c_astq {ci k t0 q n : Nat} {i : Int32} {cA : ClassId} {r : vw_C} {vs : List Value} {f : Nat → Option Nat} (X : tw_X z cc own nL) (hsz : (tw_zs z).heap.size + tw_zcells z = tw_zB z + mm) (d : decode cc pc = .ok (.aastore, 1)) (hk : k < mm) (hq : q < mm) (ha : F k = .inl (cA, n, .inr (.inr (.inr (.inr f))))) (ht : (tw_tys (tw_zC z))[t0]? = some (cA, .object r.1)) (hv : F q = .inr (ci, vs)) (hc : vwCl[ci]? = some r) (hin : vp_in i n)
    (kk : tw_Rc z (va_up F k (.inl (cA, n, .inr (.inr (.inr (.inr (va_up f i.toNatClampNeg (some (tw_zB z + q)))))))) ) mm (pc + 1) L st) : tw_Rc z F mm pc L (.ref (tw_zB z + q) :: .int i :: .ref (tw_zB z + k) :: st) := by
  intro H locs ls hP hz hS hl
  refine va_astq X.1 X.2.1 X.K hP tw_wl_D0 hS k t0 q ci ((tw_wl_get hk).trans (congrArg (fun e => some (tw_zB z + k, e)) ha)) ht ((tw_wl_get hq).trans (congrArg (fun e => some (tw_zB z + q, e)) hv)) hc hin d (fun H1 locs1 hP1 _ hS1 => ?_)
  rw [tw_wl_set] at hP1
  exact tw_size (Nat.lt_of_le_of_lt (Nat.zero_le _) hk) hsz hP1 (fun h => kk H1 locs1 ls hP1 h hS1 hl)
end TWN
