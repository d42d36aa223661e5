/-! THE CONSTRUCTORS: rows over a world that grows. F: what the cells hold; mm: how many there are. -/
def tw_Rc (z : tw_Z) (F : Nat → va_E) (mm : Nat) (pc : Nat) (L : List (Nat × Value)) (st : List Value) : Prop :=
  ∀ (H : Heap) (locs : List Loc) (ls : Array Slot), va_P (tw_zD z) vwCl (tw_wl (tw_zB z) F mm) H → H.size = tw_zB z + mm → tw_SS z H locs → lv_has ls (tw_znL z) L → tw_W z H locs (F0 (tw_zm z) pc ls st)
theorem tw_Pcong {B mm : Nat} {D : va_G} {F G : Nat → va_E} {H : Heap} (h : va_P D vwCl (tw_wl B F mm) H) (he : ∀ k, k < mm → F k = G k) : va_P D vwCl (tw_wl B G mm) H := by rw [← tw_wl_cong he]; exact h
theorem tw_Rc.cong {z : tw_Z} {F G : Nat → va_E} {mm pc : Nat} {L : List (Nat × Value)} {st : List Value} (h : tw_Rc z G mm pc L st) (he : ∀ k, k < mm → F k = G k) : tw_Rc z F mm pc L st := fun H locs ls hP hz hS hl => h H locs ls (tw_Pcong hP he) hz hS hl
/-- one cell more -/
theorem tw_Ppush {B mm : Nat} {D : va_G} {F : Nat → va_E} {H H1 : Heap} {e : va_E} (h : va_P D vwCl (tw_wl B F mm) H) (hz : H.size = B + mm) (o1 : ∀ q, q < B + mm → H1[q]? = H[q]?) (he : va_at D vwCl (B + mm, e) H1) : va_P D vwCl (tw_wl B (va_up F mm e) (mm + 1)) H1 := by
  intro k q hk
  obtain ⟨h1, rfl⟩ := tw_wl_len hk
  by_cases h2 : k = mm
  · subst h2
    have : va_up F k e k = e := by simp [va_up]
    rw [this]; exact he
  · have h3 : k < mm := by omega
    have : va_up F mm e k = F k := by simp [va_up, h2]
    rw [this]
    exact (h k (B + k, F k) (tw_wl_get h3)).kept (o1 _ (by show B + k < B + mm; omega))
theorem tw_SSpush {A : Nat → Prop} {H0 H H1 : Heap} {locs : List Loc} {b : Nat} (hS : va_S A H0 H locs) (hz : H.size = b) (z1 : H1.size = b + 1) (o1 : ∀ q, q < b → H1[q]? = H[q]?) : va_S A H0 H1 locs :=
  ⟨Nat.le_trans hS.1 (by rw [hz, z1]; exact Nat.le_succ _), fun x h1 h2 => (o1 x (Nat.lt_of_lt_of_le h1 (hz ▸ hS.1))).trans (hS.2.1 x h1 h2), hS.2.2⟩
section TWN
variable {z : tw_Z} {cc : ByteArray} {own : String} {nL pc mm : Nat} {F : Nat → va_E} {L : List (Nat × Value)} {st : List Value}
theorem c_newi {N : Nat} {n : Int32} (X : tw_X z cc own nL) (d : decode cc pc = .ok (.newarray .int, 2)) (hn : ¬ n < 0) (hN : n.toNatClampNeg = N) (hb : N * 4 ≤ 536870912) (hc : tw_zcells z + 1 ≤ (tw_zR z).cells) (hs : tw_zslots z + N ≤ (tw_zR z).slots) (hw : (Cond.arrayClass .int).before (tw_zargs z) (tw_zs z) = true)
    (kk : tw_Rc (tw_cz z (tw_zcells z + 1) (tw_zslots z + N)) (va_up F mm (.inl (tw_zC z 0, N, .inl (fun _ => 0)))) (mm + 1) (pc + 2) L (.ref (tw_zB z + mm) :: st)) : tw_Rc z F mm pc L (.int n :: st) := by
  intro H locs ls hP hz hS hl
  refine va_newaK X.1 X.2.1 (atype := .int) hw rfl d rfl hn hN hb hc hs hz fun H1 cA e1 z1 o1 _ hf => ?_
  have hA : cA = tw_zC z 0 := Option.some.inj (hf.symm.trans ((X.2.2.2.2.2.1.2.1.2 0 _ rfl).2))
  subst hA
  exact kk H1 locs ls (tw_Ppush hP hz o1 e1) z1 (tw_SSpush hS hz z1 o1) hl
end TWN
