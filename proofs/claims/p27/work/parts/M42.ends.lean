/-! THE CLAIM OUT OF ONE WALK OF THE LAW'S BODY. Your part is whole_start (and what it stands on); all else here is the same for every law, but numbers. -/
def R_law : String := "TreasureWalkLaw"
def lw_P (b : Addr) (xs : List Int32) (args : Array Value) (s : State) : Prop := args = #[.ref b] ∧ s.IntsAt b xs ∧ xs.length ≤ 260 ∧ (Jvm.Cond.and given_1 narrow_1).before args s = true
def lw_Q (_ : Array Value) (s : State) (o : Outcome) (t : State) : Prop := o = .returned (some (.int 1)) ∧ Framed s o t [] room_1.cells room_1.slots
def lw_Z (below : List Frame) (a : Array Value) (s : State) : State → Prop := fun t => ∃ o, t.status = .running ∧ Ended t below o ∧ lw_Q a s o t
/-- the law's own end, with 1 on the stack, nothing written that was there before, its room as the claim has it -/
theorem lw_ret {p : Program} {l : Launch} {e : Env} {s : State} {m : MethodId} {below : List Frame} {meth : Method} {c : Code} {b : Nat} (hx : p.tables.exec = Jvm.exec) (hb : c.code = code) (hr : meth.sig.returnType = ret) (hlocks : meth.locks = false) {pc : Nat} {H : Heap} {ls : Array Slot} (hdg : decode code pc = .ok (.ireturn, 1)) : W p l e room_1 s m #[Value.ref b] below meth c H [] room_1.cells room_1.slots (lw_Z below #[Value.ref b] s) (F0 m pc ls [.int 1]) := by
  intro T hT X
  obtain ⟨fs, hret, hrun, hended, hW, hframe⟩ := X.leave (v := some (.int 1)) (hlocks := hlocks) (fun h => by rw [hr] at h; cases h)
  have hmeth' : T.vm.method? m = some meth := X.method'
  refine ⟨T.setFrames fs, ?_, .returned (some (.int 1)), hrun, hended, rfl, ⟨_, rfl⟩, hW, hframe⟩
  jvm_step X.here [X.here.top, hx, hb, hdg, hmeth', hr, ret, narrow_b1]
  (try refine ⟨rfl, ?_⟩); (try refine ⟨rfl, ?_⟩)
  first | (intro acts; rw [hret _ acts rfl rfl rfl]) | rw [hret _ _ rfl rfl rfl]
  exact Steps.refl _
/-- what holds at the law's entry: the machine, the code, the tables' words (any of lw_tbl by 'hts w (by decide +kernel)'), the script of L ints xs at the cell b, what the Statement gives of the start (any of its parts by flat_of_before) -/
def lw_At (p : Program) (s : State) (m : MethodId) (meth : Method) (c : Code) (b L : Nat) (xs : Nat → Int32) : Prop :=
  p.tables.exec = Jvm.exec ∧ c.code = code ∧ meth.sig.returnType = ret ∧ c.maxLocals = 22 ∧ s.vm.findClass R_law = some m.cls ∧ (∀ w ∈ lw_tbl, w.before #[Value.ref b] s = true) ∧ va_X b L xs s s.heap ∧ b < s.heap.size ∧ meth.locks = false ∧ (Jvm.Cond.and given_1 narrow_1).before #[Value.ref b] s = true
/-! the law's end, in the world's words -/
theorem dw_hend {p : Program} {l : Launch} {e : Env} {s : State} {m : MethodId} {below : List Frame} {meth : Method} {c : Code} {b : Nat} {z : tw_Z} (hx : p.tables.exec = Jvm.exec) (hb : c.code = code) (hr : meth.sig.returnType = ret) (hlocks : meth.locks = false)
    (hp : tw_zp z = p) (hl : tw_zl z = l) (he : tw_ze z = e) (hR : tw_zR z = room_1) (hs : tw_zs z = s) (hm : tw_zm z = m) (ha : tw_zargs z = #[Value.ref b]) (hbel : tw_zbelow z = below) (hmeth : tw_zmeth z = meth) (hc : tw_zc z = c) (hB : tw_zB z = s.heap.size) (hQ : tw_zQ z = lw_Z below #[Value.ref b] s) :
    ∀ k n, k ≤ (tw_zR z).cells → n ≤ (tw_zR z).slots → ∀ L, dw_Rh (tw_cz z k n) 908 L [.int 1] := by
  intro k n hk hn L H locs ls hS _
  obtain ⟨z1, z2, z3, z4, z5, z6, z7, z8, z9, z10, z11, z12, z13, z14, z15, z16, z17, z18⟩ := z
  cases hp; cases hl; cases he; cases hR; cases hs; cases hm; cases ha; cases hbel; cases hmeth; cases hc
  change z11 = z5.heap.size at hB; subst hB
  change z18 = lw_Z z8 #[Value.ref b] z5 at hQ; subst hQ
  refine va_forget (fun q hq => hS.2.2 q hq) (W.widen hk hn ?_)
  exact lw_ret hx hb hr hlocks dL_law_908
/-- a private method of a superclass that is no interface is selected on the subclass -/
theorem dw_selP {C : String} {y yL : MethodName} {s : State} {args : Array Value} {n : Nat} (hyL : yL.cls = y.cls) (hy : y.cls ≠ "java/lang/invoke/MethodHandle" ∧ y.cls ≠ "java/lang/invoke/VarHandle") (hins : (Cond.instantiable C n).before args s = true) (hpriv : (Cond.privateMethod y).before args s = true) (hinst : (Cond.instanceMethod y).before args s = true) (hinstL : (Cond.instanceMethod yL).before args s = true) (hselL : (Cond.selects C yL yL).before args s = true) : (Cond.selects C y y).before args s = true := by
  obtain ⟨c, k, hc, hk, -, hniab, -, -⟩ := Cond.instantiable_spec hins
  have hni : k.isInterface = false := (Bool.or_eq_false_iff.mp hniab).1
  obtain ⟨mk, methM, hnamed, hmethM, -, -⟩ := Cond.instanceMethod_spec hinst
  have hfound : s.methodFound? y.cls y.name y.desc = some mk := State.methodFound?_of_named hnamed hy
  have hsel : selectMethod {} s.vm c mk = .method mk := selectMethod_private hmethM (Cond.privateMethod_at hpriv mk methM hnamed hmethM)
  obtain ⟨mkL, mL, hnL, hmL, -, -⟩ := Cond.instanceMethod_spec hinstL
  have hfL : s.methodFound? yL.cls yL.name yL.desc = some mkL := State.methodFound?_of_named hnL (by rw [hyL]; exact hy)
  have e : mkL.cls = mk.cls := by
    have h1 := findClass_of_methodNamed hnL
    have h2 := findClass_of_methodNamed hnamed
    rw [hyL] at h1
    exact Option.some.inj (h1.symm.trans h2)
  have hI : Option.any (fun x : Class => !x.isInterface) s.vm.classes[mk.cls]? = true := by
    rw [← e]
    simp only [Cond.before, Cond.holds, Cond.value, hc, hfL, hnL, hk] at hselL
    simp at hselL
    split at hselL
    · exact (Bool.and_eq_true_iff.mp hselL).2
    · cases hselL
  simp only [Cond.before, Cond.holds, Cond.value, hc, hfound, hnamed, hsel, hk]
  simp [hni, hI]
