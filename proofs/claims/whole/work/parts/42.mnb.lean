/-! what the model's own 'make' does, level by level -/
def tw_Mz (V : Vm) (e : Env) (f : State → State) (c : ClassId) (ns : List Int32) (sz sl : Nat) : Prop :=
  ∀ (E : CtlPost) (d : Bool) (acts : List Action) (s : State) (Q : Addr → Pre), s.vm = V → s.heap.size + sz ≤ e.platform.maxCells → s.slotsUsed + sl ≤ e.platform.maxSlots → (∀ d' acts', Q s.heap.size d' acts' (f s)) → wp (multianewarray.make c ns) Q E e d acts s
theorem tw_Mz1 {V : Vm} {e : Env} {c cc : ClassId} {k : Class} {type : FieldType} {m : Int32} (hk : V.classes[c]? = some k) (hkind : k.kind = .array cc type) (hm : ¬ m < 0) (hl : ¬ m.toNatClampNeg > e.platform.arrayLengthLimit) (hh : ¬ m.toNatClampNeg * componentBytes type > e.platform.maxHeapBytes) (hdf : fits type (defaultValue type) = true) (hdd : (defaultValue type).isDefault = true) : tw_Mz V e (tw_f1 c m.toNatClampNeg (defaultValue type)) c [m] 1 m.toNatClampNeg := by
  intro E d acts s Q hV h1 h2 hQ
  subst hV
  exact Jvm.Free.Multi.wp_make1 hk hkind hm hl hh hdf hdd (by omega) h2 (hQ _ _)
theorem tw_MzM {V : Vm} {e : Env} {f : State → State} {sz sl : Nat} {cf : Nat → Nat → Cell} {c c1 : ClassId} {k : Class} {t0 : FieldType} {n r0 : Int32} {rs : List Int32} (G : tw_Gr f sz sl cf) (hf : tw_Mz V e f c1 (r0 :: rs) sz sl) (hk : V.classes[c]? = some k) (hkind : k.kind = .array c1 t0) (href : t0.isReference = true) (hn : ¬ n < 0) (hl : ¬ n.toNatClampNeg > e.platform.arrayLengthLimit) (hh : ¬ n.toNatClampNeg * componentBytes t0 > e.platform.maxHeapBytes) (hfind : ((r0 :: rs).find? (· < 0)) = none) : tw_Mz V e (fun s => tw_mk f sz c n.toNatClampNeg s n.toNatClampNeg) c (n :: r0 :: rs) (1 + n.toNatClampNeg * sz) (n.toNatClampNeg + n.toNatClampNeg * sl) := by
  intro E d acts s Q hV h1 h2 hQ
  subst hV
  rw [multianewarray.make]
  simp only [wp_bind', Jvm.W.ite, hn, if_false, wp_pure', Jvm.W.theClass, hk, hkind, Option.some.injEq, exists_eq_left']
  have z1 := Nat.zero_le (n.toNatClampNeg * sz)
  have z2 := Nat.zero_le (n.toNatClampNeg * sl)
  refine Jvm.Free.Multi.wp_newArray hk hkind hl hh (Jvm.Free.Multi.refFits href _ (Or.inl rfl)) rfl (by omega) (by omega) ?_
  simp only [hfind]
  rw [ite_self, wp_bind', Std.Legacy.Range.forIn_eq_forIn_range']
  have hsz : ([:n.toNatClampNeg] : Std.Legacy.Range).size = n.toNatClampNeg := by simp [Std.Legacy.Range.size]
  rw [hsz]
  show wp (forIn (List.range' 0 n.toNatClampNeg 1) PUnit.unit _) _ E e d acts _
  refine wp_forIn_inv (fun rest s' => ∃ i, i ≤ n.toNatClampNeg ∧ rest = List.range' i (n.toNatClampNeg - i) ∧ s' = tw_mk f sz c n.toNatClampNeg s i) _ _ ⟨0, Nat.zero_le _, rfl, rfl⟩ ?_ ?_
  · rintro x rest s' d' acts' Q' ⟨i, hi, hx, rfl⟩ hnext
    have hlt : i < n.toNatClampNeg := by
      rcases Nat.lt_or_ge i n.toNatClampNeg with h | h
      · exact h
      · rw [show n.toNatClampNeg - i = 0 from by omega] at hx; simp at hx
    obtain ⟨rfl, hrest⟩ : x = i ∧ rest = List.range' (i + 1) (n.toNatClampNeg - (i + 1)) := by
      rw [show n.toNatClampNeg - i = (n.toNatClampNeg - (i + 1)) + 1 from by omega, List.range'_succ] at hx
      exact ⟨(List.cons.inj hx).1, (List.cons.inj hx).2⟩
    obtain ⟨f1, f2, f3, f4, f5, -⟩ := tw_mk_facts G c n.toNatClampNeg s x
    obtain ⟨g1, g2, g3, g4, -, -⟩ := G.1 (tw_mk f sz c n.toNatClampNeg s x)
    obtain ⟨o1, o2, o3⟩ := tw_oc_facts c n.toNatClampNeg (fun j => s.heap.size + 1 + j * sz) x
    have e1 : x * sz + sz ≤ n.toNatClampNeg * sz := by
      have := Nat.mul_le_mul_right sz (show x + 1 ≤ n.toNatClampNeg from hlt)
      rw [Nat.succ_mul] at this; exact this
    have e2 : x * sl + sl ≤ n.toNatClampNeg * sl := by
      have := Nat.mul_le_mul_right sl (show x + 1 ≤ n.toNatClampNeg from hlt)
      rw [Nat.succ_mul] at this; exact this
    simp only [wp_bind']
    refine hf _ _ _ _ _ f2 (by rw [f1]; omega) (by rw [f3]; omega) (fun d2 a2 => ?_)
    have hlt0 : s.heap.size < (tw_mk f sz c n.toNatClampNeg s x).heap.size := by rw [f1]; omega
    simp only [wp_bind', Jvm.W.writeLoc, wp_pure']
    refine ⟨tw_oc c n.toNatClampNeg (fun j => s.heap.size + 1 + j * sz) x, by rw [g4 _ hlt0]; exact f5, by rw [o2]; simp, by rw [o3]; exact hlt, ?_, hnext _ _ _ ⟨x + 1, hlt, hrest, ?_⟩⟩
    · rw [o1, o2]
      simp [State.fitsSlot, State.slotType?, g2, f2, hk, hkind, Jvm.Free.Multi.refFits href _ (Or.inr ⟨_, rfl⟩)]
    · rw [f1]; rfl
  · rintro s' d' acts' ⟨i, hi, hx, rfl⟩
    have hiN : i = n.toNatClampNeg := by
      rcases Nat.lt_or_ge i n.toNatClampNeg with h | h
      · rw [show n.toNatClampNeg - i = (n.toNatClampNeg - (i + 1)) + 1 from by omega, List.range'_succ] at hx; cases hx
      · omega
    subst hiN
    simp only [wp_pure']
    exact hQ _ _
