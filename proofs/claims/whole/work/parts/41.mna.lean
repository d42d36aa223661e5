/-! ARRAYS OF ARRAYS: what 'multianewarray' makes, level by level. -/
def tw_oc (c : ClassId) (N : Nat) (g : Nat → Nat) : Nat → Cell
  | 0 => { cls := c, slots := Array.replicate N .null, vm := .none }
  | i + 1 => (tw_oc c N g i).setSlot i (.ref (g i))
theorem tw_oc_facts (c : ClassId) (N : Nat) (g : Nat → Nat) : ∀ i, (tw_oc c N g i).cls = c ∧ (tw_oc c N g i).vm = .none ∧ (tw_oc c N g i).slots.size = N
  | 0 => ⟨rfl, rfl, by simp [tw_oc]⟩
  | i + 1 => by
    obtain ⟨a, b, d⟩ := tw_oc_facts c N g i
    exact ⟨by simp [tw_oc, Cell.setSlot, a], by simp [tw_oc, Cell.setSlot, b], by simp [tw_oc, Cell.setSlot, d]⟩
theorem tw_oc_slot (c : ClassId) (N : Nat) (g : Nat → Nat) : ∀ i j, j < N → (tw_oc c N g i).slots[j]? = some (if j < i then .ref (g j) else .null)
  | 0, j, h => by simp [tw_oc, h]
  | i + 1, j, h => by
    have ih := tw_oc_slot c N g i j h
    have hs := (tw_oc_facts c N g i).2.2
    show ((tw_oc c N g i).setSlot i (.ref (g i))).slots[j]? = _
    simp only [Cell.setSlot, Array.getElem?_setIfInBounds]
    by_cases e : i = j
    · subst e; simp [hs, h]
    · rw [if_neg e, ih]
      by_cases hj : j < i
      · rw [if_pos hj, if_pos (by omega)]
      · rw [if_neg hj, if_neg (by omega)]
theorem tw_oc_form (c : ClassId) (N : Nat) (g : Nat → Nat) : ∀ i, ∃ sl, tw_oc c N g i = { cls := c, slots := sl, vm := .none }
  | 0 => ⟨_, rfl⟩
  | i + 1 => by
    obtain ⟨sl, h⟩ := tw_oc_form c N g i
    exact ⟨sl.setIfInBounds i (.ref (g i)), by show (tw_oc c N g i).setSlot i _ = _; rw [h]; rfl⟩
theorem tw_oc_end (c : ClassId) (N : Nat) (g : Nat → Nat) : tw_oc c N g N = arrV c N (fun j => .ref (g j)) := by
  have d := (tw_oc_facts c N g N).2.2
  have hs : (tw_oc c N g N).slots = (arrV c N (fun j => .ref (g j))).slots := by
    apply Array.ext_getElem?
    intro j
    by_cases h : j < N
    · rw [tw_oc_slot c N g N j h, if_pos h, arrV_read c _ h]
    · rw [Array.getElem?_eq_none (by rw [d]; omega), Array.getElem?_eq_none (by rw [arrV_size]; omega)]
  obtain ⟨sl, h⟩ := tw_oc_form c N g N
  rw [h] at hs ⊢
  have hs2 : sl = (arrV c N (fun j => .ref (g j))).slots := hs
  rw [hs2]
  rfl
/-- a growth of the heap: how many cells, how many slots, which cells -/
def tw_Gr (f : State → State) (sz sl : Nat) (cf : Nat → Nat → Cell) : Prop :=
  (∀ s : State, (f s).heap.size = s.heap.size + sz ∧ (f s).vm = s.vm ∧ (f s).slotsUsed = s.slotsUsed + sl ∧ (∀ a : Nat, a < s.heap.size → (f s).heap[a]? = s.heap[a]?) ∧ (∀ j : Nat, j < sz → (f s).heap[s.heap.size + j]? = some (cf s.heap.size j)) ∧ (∀ fr : JFrame, f (s.setTop fr) = (f s).setTop fr)) ∧
  ∀ (p : Program) (l : Launch) (e : Env) (R : Room) (s0 : State) (m : MethodId) (args : Array Value) (below : List Frame) (meth : Method) (c : Code) (T : State) (locs : List Loc) (cells slots : Nat), Stand p l e R s0 m args below meth c T locs cells slots → Stand p l e R s0 m args below meth c (f T) locs (cells + sz) (slots + sl)
def tw_ar (c : ClassId) (N : Nat) (dv : Value) : Cell := { cls := c, slots := Array.replicate N dv, vm := .none }
def tw_f1 (c : ClassId) (N : Nat) (dv : Value) (s : State) : State := s.pushCell (tw_ar c N dv)
theorem tw_Gr1 (c : ClassId) (N : Nat) (dv : Value) : tw_Gr (tw_f1 c N dv) 1 N (fun _ _ => tw_ar c N dv) := by
  refine ⟨fun s => ⟨by simp [tw_f1], rfl, by simp [tw_f1, tw_ar], fun a ha => State.heap_pushCell_of_lt _ _ ha, fun j hj => ?_, fun fr => rfl⟩, fun p l e R s0 m args below meth c' T locs cells slots X => ?_⟩
  · have : j = 0 := by omega
    subst this
    exact State.heap_pushCell_size _ _
  · have h := X.pushed (tw_ar c N dv)
    have e1 : (tw_ar c N dv).slots.size = N := by simp [tw_ar]
    rw [e1] at h
    exact h
def tw_mk (f : State → State) (sz : Nat) (c : ClassId) (N : Nat) (s : State) : Nat → State
  | 0 => s.pushCell (tw_oc c N (fun j => s.heap.size + 1 + j * sz) 0)
  | i + 1 => (f (tw_mk f sz c N s i)).setCell s.heap.size (tw_oc c N (fun j => s.heap.size + 1 + j * sz) (i + 1))
section TWMK
variable {f : State → State} {sz sl : Nat} {cf : Nat → Nat → Cell}
theorem tw_mk_facts (G : tw_Gr f sz sl cf) (c : ClassId) (N : Nat) (s : State) : ∀ i, (tw_mk f sz c N s i).heap.size = s.heap.size + 1 + i * sz ∧ (tw_mk f sz c N s i).vm = s.vm ∧ (tw_mk f sz c N s i).slotsUsed = s.slotsUsed + N + i * sl ∧ (∀ a : Nat, a < s.heap.size → (tw_mk f sz c N s i).heap[a]? = s.heap[a]?) ∧ (tw_mk f sz c N s i).heap[s.heap.size]? = some (tw_oc c N (fun j => s.heap.size + 1 + j * sz) i) ∧ (∀ q r : Nat, q < i → r < sz → (tw_mk f sz c N s i).heap[s.heap.size + 1 + q * sz + r]? = some (cf (s.heap.size + 1 + q * sz) r))
  | 0 => ⟨by simp [tw_mk], rfl, by simp [tw_mk, (tw_oc_facts c N _ 0).2.2], fun a ha => State.heap_pushCell_of_lt _ _ ha, State.heap_pushCell_size _ _, fun q r hq _ => absurd hq (Nat.not_lt_zero _)⟩
  | i + 1 => by
    obtain ⟨a, b, u, o, h0, hh⟩ := tw_mk_facts G c N s i
    obtain ⟨g1, g2, g3, g4, g5, -⟩ := G.1 (tw_mk f sz c N s i)
    have hlt : s.heap.size < (tw_mk f sz c N s i).heap.size := by omega
    have h0' : (f (tw_mk f sz c N s i)).heap[s.heap.size]? = some (tw_oc c N (fun j => s.heap.size + 1 + j * sz) i) := by rw [g4 _ hlt]; exact h0
    have e1 : (i + 1) * sz = i * sz + sz := Nat.succ_mul i sz
    have e2 : (i + 1) * sl = i * sl + sl := Nat.succ_mul i sl
    refine ⟨?_, by show (f (tw_mk f sz c N s i)).vm = _; rw [g2, b], ?_, fun x hx => ?_, State.heap_setCell_self h0', fun q r hq hr => ?_⟩
    · show ((f (tw_mk f sz c N s i)).setCell _ _).heap.size = _
      simp only [State.setCell, Array.size_setIfInBounds, g1, a]
      omega
    · show ((f (tw_mk f sz c N s i)).setCell _ _).slotsUsed = _
      simp only [State.slotsUsed_setCell, g3, u]
      omega
    · show ((f (tw_mk f sz c N s i)).setCell _ _).heap[x]? = _
      rw [State.heap_setCell_other (Nat.ne_of_gt hx), g4 _ (by omega), o x hx]
    · show ((f (tw_mk f sz c N s i)).setCell _ _).heap[_]? = _
      rw [State.heap_setCell_other (show s.heap.size ≠ s.heap.size + 1 + q * sz + r by omega)]
      by_cases hqi : q < i
      · have e3 : q * sz + sz ≤ i * sz := by
          have := Nat.mul_le_mul_right sz (show q + 1 ≤ i from hqi)
          rw [Nat.succ_mul] at this; exact this
        rw [g4 _ (by omega)]
        exact hh q r hqi hr
      · have : q = i := by omega
        subst this
        have := g5 r hr
        rw [a] at this
        exact this
theorem tw_mk_setTop (G : tw_Gr f sz sl cf) (c : ClassId) (N : Nat) (s : State) (fr : JFrame) : ∀ i, tw_mk f sz c N (s.setTop fr) i = (tw_mk f sz c N s i).setTop fr
  | 0 => rfl
  | i + 1 => by
    show (f (tw_mk f sz c N (s.setTop fr) i)).setCell _ _ = _
    rw [tw_mk_setTop G c N s fr i, (G.1 _).2.2.2.2.2 fr]
    rfl
theorem tw_mk_Stand (G : tw_Gr f sz sl cf) (c : ClassId) (N : Nat) {p : Program} {l : Launch} {e : Env} {R : Room} {s0 : State} {m : MethodId} {args : Array Value} {below : List Frame} {meth : Method} {c' : Code} {T : State} {locs : List Loc} {cells slots : Nat} (X : Stand p l e R s0 m args below meth c' T locs cells slots) : ∀ i, Stand p l e R s0 m args below meth c' (tw_mk f sz c N T i) locs (cells + 1 + i * sz) (slots + N + i * sl)
  | 0 => by
    have h := X.pushed (tw_oc c N (fun j => T.heap.size + 1 + j * sz) 0)
    rw [(tw_oc_facts c N _ 0).2.2] at h
    rw [Nat.zero_mul, Nat.zero_mul]
    exact h
  | i + 1 => by
    have Xi := tw_mk_Stand G c N X i
    obtain ⟨a, b, u, o, h0, -⟩ := tw_mk_facts G c N T i
    have hlt : T.heap.size < (tw_mk f sz c N T i).heap.size := by omega
    have h0' : (f (tw_mk f sz c N T i)).heap[T.heap.size]? = some (tw_oc c N (fun j => T.heap.size + 1 + j * sz) i) := by rw [(G.1 _).2.2.2.1 _ hlt]; exact h0
    have h := (G.2 _ _ _ _ _ _ _ _ _ _ _ _ _ _ Xi).stored h0' i (.ref (T.heap.size + 1 + i * sz))
    have h2 := h.dropFresh (fun x hx => by
      rw [List.mem_singleton.mp hx]
      exact X.heapGrown)
    have e1 : cells + 1 + (i + 1) * sz = cells + 1 + i * sz + sz := by rw [Nat.succ_mul]; omega
    have e2 : slots + N + (i + 1) * sl = slots + N + i * sl + sl := by rw [Nat.succ_mul]; omega
    rw [e1, e2]
    exact h2
def tw_cfm (c : ClassId) (N sz : Nat) (cf : Nat → Nat → Cell) (h j : Nat) : Cell := if j = 0 then arrV c N (fun i => .ref (h + 1 + i * sz)) else cf (h + 1 + (j - 1) / sz * sz) ((j - 1) % sz)
theorem tw_GrM (G : tw_Gr f sz sl cf) (hs : 0 < sz) (c : ClassId) (N : Nat) : tw_Gr (fun s => tw_mk f sz c N s N) (1 + N * sz) (N + N * sl) (tw_cfm c N sz cf) := by
  refine ⟨fun s => ?_, fun p l e R s0 m args below meth c' T locs cells slots X => ?_⟩
  · obtain ⟨a, b, u, o, h0, hh⟩ := tw_mk_facts G c N s N
    refine ⟨by rw [a]; omega, b, by rw [u]; omega, o, fun j hj => ?_, fun fr => tw_mk_setTop G c N s fr N⟩
    unfold tw_cfm
    by_cases hj0 : j = 0
    · subst hj0
      rw [if_pos rfl, Nat.add_zero, h0, tw_oc_end]
    · rw [if_neg hj0]
      have hm : (j - 1) % sz < sz := Nat.mod_lt _ hs
      have hd : (j - 1) / sz * sz + (j - 1) % sz = j - 1 := by rw [Nat.mul_comm]; exact Nat.div_add_mod _ _
      have hq : (j - 1) / sz < N := by
        rw [Nat.div_lt_iff_lt_mul hs]; omega
      have := hh ((j - 1) / sz) ((j - 1) % sz) hq hm
      rw [← this]
      congr 1
      omega
  · have h := tw_mk_Stand G c N X N
    rw [show cells + (1 + N * sz) = cells + 1 + N * sz from by omega, show slots + (N + N * sl) = slots + N + N * sl from by omega]
    exact h
end TWMK
