/-! A THROW OF A CLASS WHOSE CONSTRUCTOR LINKS ITS PARENT'S BY ANOTHER ENTRY THAN 7 (java.util.NoSuchElementException: 13), launches without stack traces: the walk of the library's ctorThrowS, for what a catcher asks of the cell alone. -/
def tw_atX (own : String) (ic : Nat) (X Y : String) (r : List String) (ix : Nat) (rx : ByteArray) : List Cond :=
  Bundle.throwableAtoms ++ Bundle.throwableSAtoms ++ (Bundle.passSAtoms X Y ix rx ++ Bundle.chainSAtoms Y r) ++
  [.methodLink own ic (Bundle.initS X), .instantiable X 6, .castable X X, .selects X Bundle.tFill0 Bundle.tFill0, .selects X Bundle.tFill Bundle.tFill,
   .lays X Bundle.tN "cause" "Ljava/lang/Throwable;", .lays X Bundle.tN "stackTrace" Bundle.steD, .lays X Bundle.tN "suppressedExceptions" Bundle.listD, .lays X Bundle.tN "detailMessage" "Ljava/lang/String;",
   .isRef (.static Bundle.tN "UNASSIGNED_STACK" Bundle.steD), .isRef (.static Bundle.tN "SUPPRESSED_SENTINEL" Bundle.listD),
   .fieldLink Bundle.tN 198 Bundle.tN "backtrace" "Ljava/lang/Object;", .lays Bundle.tN Bundle.tN "backtrace" "Ljava/lang/Object;", .lays X Bundle.tN "backtrace" "Ljava/lang/Object;"]
section TWN
variable {p : Program} {l : Launch} {e : Env} {R : Room} {s : State} {m₀ : MethodId} {args : Array Value} {below : List Frame} {meth : Method} {c : Code} {W0 : State} {locs : List Loc} {cells slots : Nat}
theorem tw_chX {pl : Platform} (hpl : pl.magicAccessors = ({} : Platform).magicAccessors) {top : MethodId} (htop : s.methodNamed? (Bundle.initS Bundle.tN) = some top) {ix : Nat} {rx : ByteArray} (x0 : decode rx 0 = .ok (.aload_n 0, 1)) (x1 : decode rx 1 = .ok (.aload_n 1, 1)) (x2 : decode rx 2 = .ok (.invokespecial ix, 3)) (x5 : decode rx 5 = .ok (.return_, 1)) {X Y : String} {r : List String} (hX : Bundle.fit X = true) (hY : Bundle.fit Y = true) (hn : ∀ n ∈ r, Bundle.fit n = true) (h : ∀ c ∈ Bundle.passSAtoms X Y ix rx ++ Bundle.chainSAtoms Y r, c.before args s = true) :
    ∃ (P1 : PassC) (Ps : List PassC), Ps.length = r.length + 1 ∧ P1.LinksS pl s ∧ (∀ P, P ∈ Ps → P.LinksS pl s) ∧ s.methodNamed? (Bundle.initS X) = some P1.m ∧ P1.sup = firstOf top (Ps.map (·.toPassT)) ∧ PassesOn top (Ps.map (·.toPassT)) := by
  obtain ⟨P, L, hm, hs⟩ := PassC.ofS_atoms (args := args) (s := s) hpl (X := X) (Y := Y) (Bundle.fit_spec hX).1 (Bundle.fit_spec hY).2 x0 x1 x2 x5 (fun c hc => h c (List.mem_append_left _ hc))
  obtain ⟨P', Ps, hlen, L', hL, hm', hsup, hpass⟩ := Bundle.chainS (args := args) hpl htop r Y hY hn (fun c hc => h c (List.mem_append_right _ hc))
  refine ⟨P, P' :: Ps, by simp [hlen], L, ?_, hm, Option.some.inj (hs.symm.trans hm'), hsup, hpass⟩
  intro Q hQ
  rcases List.mem_cons.mp hQ with rfl | hQ
  · exact L'
  · exact hL Q hQ
set_option maxHeartbeats 4000000 in
theorem tw_ctX (X : Stand p l e R s m₀ args below meth c W0 locs cells slots) (hexec : p.tables.exec = Jvm.exec) (htr : e.platform.stackTraces = false) {own cls Y1 : String} {r : List String} {ic ix : Nat} {rx : ByteArray} (x0 : decode rx 0 = .ok (.aload_n 0, 1)) (x1 : decode rx 1 = .ok (.aload_n 1, 1)) (x2 : decode rx 2 = .ok (.invokespecial ix, 3)) (x5 : decode rx 5 = .ok (.return_, 1))
    (hown : s.vm.findClass own = some m₀.cls) (hcls : Bundle.fit cls = true) (hY1 : Bundle.fit Y1 = true) (hnames : ∀ n ∈ r, Bundle.fit n = true)
    (h : ∀ a ∈ tw_atX own ic cls Y1 r ix rx, a.before args s = true)
    (hlocs : ∀ x ∈ locs, ∀ cell, s.heap[x.base]? = some cell → cell.vm.isStatics = false)
    {a : Addr} {cX : ClassId} {kX : Class} (hfoundX : s.vm.findClass cls = some cX) (hkX : s.vm.classes[cX]? = some kX) (hcell : W0.heap[a]? = some (freshCell cX kX)) (hnew : s.heap.size ≤ a)
    {msg : Value} (hmsg : msg.isRef = true)
    {g : JFrame} (hg : g.method = m₀) (hsize : g.locals.size = c.maxLocals) (hlocked : g.locked = none) (hentered : g.entered = []) {rest : List Value} (hstack : g.stack = msg :: .ref a :: .ref a :: rest)
    (hd6 : decode c.code g.pc = .ok (.invokespecial ic, 3)) (hd9 : decode c.code (g.pc + 3) = .ok (.athrow, 1)) (hout : ∀ x ∈ c.exceptionTable.toList, covers x (g.pc + 3) = false)
    (hRframes : r.length + 4 < R.frames) (hRlocals : 2 * g.monitorRoom + ((Value.ref a :: rest).map fun v => v.category).sum + (13 * (r.length + 2) + 42) ≤ R.locals) (hlocks : meth.locks = false) :
    ∃ U : State, Steps p.tables e below (W0.setTop g) U ∧ U.status = .running ∧ Ended U below (.threw a) ∧ s.WarmedH U.vm ∧ s.sameButNew ({ U with vm := s.vm } : State) locs cells slots ∧ ∃ ce, U.heap[a]? = some ce ∧ ce.vm = .none ∧ s.vm.findClass cls = some ce.cls := by
  have howns : e.platform.frameOwnsMonitors = true := by rw [X.admits.platform]
  have hfin : e.platform.finalization = false := by rw [X.admits.platform]
  have hpl : e.platform.magicAccessors = ({} : Platform).magicAccessors := by rw [X.admits.platform]
  have a' : ∀ x, x ∈ tw_atX own ic cls Y1 r ix rx → x.holds args s none s [] = true := fun x hx => h x hx
  obtain ⟨T, Z0, L, -, Y⟩ := ThrowableC.of_atoms (args := args) howns hfin hpl (fun x hx => h x (by simp [tw_atX, hx]))
  obtain ⟨Z, M, LZ, LM, hnZ⟩ := Init0T.ofS_atoms (args := args) hpl L Y (fun x hx => h x (by simp [tw_atX, hx]))
  obtain ⟨P1, Ps, hlen, L1, hL, hP1m, hlink1, hlink⟩ := tw_chX (args := args) hpl hnZ x0 x1 x2 x5 hcls hY1 hnames (fun x hx => h x (List.mem_append_left _ (List.mem_append_right _ hx)))
  have hfound : s.vm.findClass cls = some P1.m.cls := findClass_of_methodNamed hP1m
  cases Option.some.inj (hfoundX.symm.trans hfound)
  obtain ⟨c1, kX', hc1, hk, hord, -, -, hn6⟩ := Cond.instantiable_spec (a' (.instantiable cls 6) (by simp [tw_atX]))
  cases Option.some.inj (hc1.symm.trans hfound)
  cases Option.some.inj (hkX.symm.trans hk)
  have hsel0 : selectMethod e.platform s.vm P1.m.cls T.fill0 = .method T.fill0 := by
    obtain ⟨c2, r2, m2, q1, q2, q3, q4, -⟩ := Cond.selects_spec (a' (.selects cls Bundle.tFill0 Bundle.tFill0) (by simp [tw_atX]))
    cases Option.some.inj (q1.symm.trans hfound)
    cases Option.some.inj (q2.symm.trans (State.methodFound?_of_named Y.fill0 (by decide)))
    cases Option.some.inj (q3.symm.trans Y.fill0)
    rw [Launch.admits_selectMethod X.admits]; exact q4
  have hselF : selectMethod e.platform s.vm P1.m.cls T.fill = .method T.fill := by
    obtain ⟨c2, r2, m2, q1, q2, q3, q4, -⟩ := Cond.selects_spec (a' (.selects cls Bundle.tFill Bundle.tFill) (by simp [tw_atX]))
    cases Option.some.inj (q1.symm.trans hfound)
    cases Option.some.inj (q2.symm.trans (State.methodFound?_of_named Y.fill (by decide)))
    cases Option.some.inj (q3.symm.trans Y.fill)
    rw [Launch.admits_selectMethod X.admits]; exact q4
  obtain ⟨cellS0, hcS0, hiss⟩ := Y.statics
  obtain ⟨u0, hu0⟩ := Cond.staticRefV Y.unassigned L.unassignedStatic L.statics hcS0 hiss (a' (.isRef (.static Bundle.tN "UNASSIGNED_STACK" Bundle.steD)) (by simp [tw_atX]))
  obtain ⟨sen, hsen⟩ := Cond.staticRefV Y.sentinel L.sentinelStatic L.statics hcS0 hiss (a' (.isRef (.static Bundle.tN "SUPPRESSED_SENTINEL" Bundle.listD)) (by simp [tw_atX]))
  obtain ⟨ci198, i198, fB, hk198, hg198, ha198, hsB, -, hnB, htB, hffB⟩ := Cond.ownField (t := .object "java/lang/Object") Y.found L.cls (by decide +kernel) (a' (.fieldLink Bundle.tN 198 Bundle.tN "backtrace" "Ljava/lang/Object;") (by simp [tw_atX])) (a' (.lays Bundle.tN Bundle.tN "backtrace" "Ljava/lang/Object;") (by simp [tw_atX])) e.platform hpl
  obtain ⟨cellS, hcS', heS, -, hkeep⟩ := X.same.2.2.2.2.2 T.aS cellS0 hcS0
  have hcellS : W0.heap[T.aS]? = some cellS := hcS'
  have hout' : ∀ i, (⟨T.aS, i⟩ : Loc) ∉ locs := fun i hmem => by
    have := hlocs _ hmem cellS0 hcS0
    rw [hiss] at this; cases this
  have hknownS : cellS.vm ≠ .unknown := by
    rw [heS]; intro hu
    rw [show cellS0.vm = .unknown from hu] at hiss
    cases hiss
  have hneS : T.aS ≠ a := Nat.ne_of_lt (Nat.lt_of_lt_of_le (Array.getElem?_eq_some_iff.mp hcS0).1 hnew)
  obtain ⟨iM, hffM⟩ := Y.msg
  obtain ⟨tyC, dC, hdC, hdnC⟩ := Cond.laysAt hfound hk Y.cause (a' (.lays cls Bundle.tN "cause" "Ljava/lang/Throwable;") (by simp [tw_atX]))
  obtain ⟨tyS, dS, hdS, hdnS⟩ := Cond.laysAt hfound hk Y.stack (a' (.lays cls Bundle.tN "stackTrace" Bundle.steD) (by simp [tw_atX]))
  obtain ⟨tyP, dP, hdP, hdnP⟩ := Cond.laysAt hfound hk Y.supp (a' (.lays cls Bundle.tN "suppressedExceptions" Bundle.listD) (by simp [tw_atX]))
  obtain ⟨tyM, dM, hdM, hdnM⟩ := Cond.laysAt hfound hk hffM (a' (.lays cls Bundle.tN "detailMessage" "Ljava/lang/String;") (by simp [tw_atX]))
  obtain ⟨tyB, dB, hdB, hdnB⟩ := Cond.laysAt hfound hk hffB (a' (.lays cls Bundle.tN "backtrace" "Ljava/lang/Object;") (by simp [tw_atX]))
  have bC := Cond.laysApart hdB hdC hdnB hdnC (by rw [hnB, Y.causeName]; decide)
  have bS := Cond.laysApart hdB hdS hdnB hdnS (by rw [hnB, Y.stackName]; decide)
  have bP := Cond.laysApart hdB hdP hdnB hdnP (by rw [hnB, Y.suppName]; decide)
  have hskip : SkipFacts T e.platform s (fun u => u) u0 ((preparedCellV T.toThrowableT (freshCell P1.m.cls kX) a u0 sen).withEntry W0.cur) :=
    ⟨{ ci198 := ci198, i198 := i198, fBack := fB }, ⟨hk198, hg198, ha198, hsB⟩, by
      have := fresh_default (c := P1.m.cls) tyB
      rw [htB] at this
      simpa [preparedCellV, Cell.setSlot, Cell.withEntry, Array.getElem?_setIfInBounds, bC, bS, bP, bC.symm, bS.symm, bP.symm, defaultValue] using this, fun _ _ => rfl⟩
  obtain ⟨tm, methC, cdC, kC, vm₁, hnC, -, -, -, -, -, -, -, hW₁, st1⟩ := Steps.initColdS (tb := p.tables) (e := e) (below := below) (s := s) (U := W0) X.here hexec X.warmed hpl hown (t := Bundle.initS cls) rfl rfl (Bundle.fit_spec hcls).2
    (a' (.methodLink own ic (Bundle.initS cls)) (by simp [tw_atX])) (h (.instanceMethod (Bundle.initS cls)) (by simp [tw_atX, Bundle.passSAtoms])) (bytes := rx) (maxL := 2) (h (.code (Bundle.initS cls) rx 2 none) (by simp [tw_atX, Bundle.passSAtoms]))
    (f := g) hg (a := a) (msg := msg) (rest := .ref a :: rest) hstack hd6
  cases Option.some.inj (hnC.symm.trans hP1m)
  have X₁ := X.noted hW₁
  obtain ⟨vm₂, X₂, st2⟩ := X₁.ctorMessageOffV hexec (g := { g with stack := .ref a :: rest }) hg hsize T L Z LZ M LM (P1 :: Ps)
    (fun P hP => by rcases List.mem_cons.mp hP with rfl | hP; exact L1; exact hL P hP) ⟨hlink1, hlink⟩ (u0 := u0) (sen := sen) (self := a) hmsg (cell := freshCell P1.m.cls kX) (cellS := cellS)
    hcell (fun _ => by simp) (by simp) rfl rfl hsel0 hselF hcellS hneS hknownS (by rw [hkeep _ (hout' _)]; exact hu0) (by rw [hkeep _ (hout' _)]; exact hsen)
    (Takes.of_laid hk hord tyC (by rw [Y.causeType]; rfl)) (Takes.of_laid hk hord tyS (by rw [Y.stackType]; exact fits_refV_array _ u0)) (Takes.of_laid hk hord tyP (by rw [Y.suppType]; exact fits_refV_object _ sen))
    (Takes.of_laid hk hord tyM (by rw [Y.msgType]; exact fits_refV_object _ ⟨msg, hmsg⟩)) Y.objLocals hskip htr [] hd6
    (by simp only [List.length_cons, hlen]; omega) (by simp only [List.length_cons, hlen]; exact hRlocals)
  obtain ⟨hwalk, hrun, hended, hWU, hsame⟩ := X₂.athrowLeaves hexec (g := { g with stack := .ref a :: rest, pc := g.pc + 3 }) hg hlocked hentered hout (a := a) (rest := rest) rfl hd9
  have hlt : a < ((W0.setVm vm₁).setVm vm₂).heap.size := (Array.getElem?_eq_some_iff.mp hcell).1
  have hU := heapAt_setCell_self (s := (W0.setVm vm₁).setVm vm₂) (plainBareV T.toThrowableT (freshCell P1.m.cls kX) a u0 sen msg) hlt
  refine ⟨_, st1 _ (fun acts => ?_), hrun, hended, hWU, hsame.weaken (fun y hy hlt' => ?_) (Nat.le_refl _) (Nat.le_refl _), _, hU, rfl, hfound⟩
  · rw [doInvoke_state]
    exact st2 _ hwalk
  · rcases List.mem_append.mp hy with h1 | h1
    · exact h1
    · exfalso
      have hb : y.base = a := by
        simp only [List.mem_cons, List.not_mem_nil, or_false] at h1
        rcases h1 with rfl | rfl | rfl | rfl | rfl <;> rfl
      rw [hb] at hlt'
      exact Nat.not_lt.mpr hnew hlt'
end TWN
section TWM
variable {ρ : Type} {z : tw_Z} {res : ρ ⊕ String} {cc : ByteArray} {own : String} {nL pc : Nat} {E : Option (ρ ⊕ String)} {σ : tw_Sg} {L : List (Nat × Value)} {st : List Value}
set_option maxHeartbeats 4000000 in
theorem r_thrX {cls text Y1 : String} {r : List String} {ik is ic j ix : Nat} {rx : ByteArray} (x0 : decode rx 0 = .ok (.aload_n 0, 1)) (x1 : decode rx 1 = .ok (.aload_n 1, 1)) (x2 : decode rx 2 = .ok (.invokespecial ix, 3)) (x5 : decode rx 5 = .ok (.return_, 1)) (X : tw_X z cc own nL) (d0 : decode cc pc = .ok (.new ik, 3)) (d3 : decode cc (pc + 3) = .ok (.dup, 1)) (d4 : decode cc (pc + 4) = .ok (.ldc is, 2)) (d6 : decode cc (pc + 6) = .ok (.invokespecial ic, 3)) (d9 : decode cc (pc + 9) = .ok (.athrow, 1)) (hj : (own, is, text, j) ∈ tw_ldc) (hcls : Bundle.fit cls = true) (hY1 : Bundle.fit Y1 = true) (hr : ∀ n ∈ r, Bundle.fit n = true) (hrl : r.length = 1) (i : Nat) (hi : lw_tbl[i]? = some (.classLink own ik cls)) (hini : (Cond.initialized cls) ∈ lw_tbl) (hat : ∀ w ∈ (tw_atX own ic cls Y1 r ix rx).filter vx_no, w ∈ tw_AW)
    (hgood : ∀ w ∈ Cond.classLink own ik cls :: Cond.initialized cls :: (tw_atX own ic cls Y1 r ix rx).filter vx_no, vx_ot w = true) (hst : (st.map fun v => v.category).sum ≤ 8) (hT : tw_To z σ cls) : tw_Rf z res E σ pc L st := by
  obtain ⟨t1, t2, t3, t4, t5, t6, t7, t8, t9⟩ := hT
  intro hE H locs ls hP hS hl
  unfold tw_W
  rw [t9]
  intro T hT Xs
  have EVs := X.2.2.2.2.2.1
  have htr : (tw_ze z).platform.stackTraces = false := (show (tw_ze z).platform.stackTraces = (tw_zl z).stackTraces by rw [Xs.admits.platform]).trans t1
  have Y := vx_rebase Xs (R' := { frames := (tw_zR z).frames, locals := (tw_zR z).locals, cells := 1, slots := 6 }) (Nat.le_refl _) (Nat.le_refl _) (by rw [t6]; exact t4) (by rw [t7]; exact t5)
  obtain ⟨s', hA⟩ : ∃ q, q = (T.setVm (tw_zs z).vm).setFrames (.invoking (tw_zm z) (tw_zargs z) :: (tw_zbelow z)) := ⟨_, rfl⟩
  rw [← hA] at Y
  have hvm : s'.vm = (tw_zs z).vm := by rw [hA]; rfl
  have hhp : s'.heap = H := by rw [hA]; exact hT
  have hW0 : (tw_zs z).WarmedH s'.vm := by rw [hvm]; exact State.WarmedH.refl (tw_zs z)
  have hat' : ∀ w ∈ (tw_atX own ic cls Y1 r ix rx).filter vx_no, w.before (tw_zargs z) s' = true := fun w hw => vx_ot_at hW0 hvm.symm (hgood w (List.mem_cons_of_mem _ (List.mem_cons_of_mem _ hw))) (X.all w (hat w hw))
  have hk' : (Cond.classLink own ik cls).before (tw_zargs z) s' = true := vx_ot_at hW0 hvm.symm (hgood _ List.mem_cons_self) (X.ws i hi rfl)
  have hini' : (Cond.initialized cls).before (tw_zargs z) s' = true := vx_ot_at (args := tw_zargs z) hW0 hvm.symm (hgood _ (List.mem_cons_of_mem _ List.mem_cons_self)) ((EVs.1 _ hini rfl).use rfl)
  have hU' : vx_Zq Bundle.tN "UNASSIGNED_STACK" Bundle.steD (fun q => tw_zB z ≤ q) s' s'.heap := by rw [hhp]; exact vx_Zq.moved hW0.alike (EVs.2.2.2.2.2.1.1.kept hS.2.1)
  have hN' : vx_Zq Bundle.tN "SUPPRESSED_SENTINEL" Bundle.listD (fun q => tw_zB z ≤ q) s' s'.heap := by rw [hhp]; exact vx_Zq.moved hW0.alike (EVs.2.2.2.2.2.1.2.kept hS.2.1)
  have h : ∀ w ∈ tw_atX own ic cls Y1 r ix rx, w.before (tw_zargs z) s' = true := vx_own hat' (vx_isRefq hU'.1) (vx_isRefq hN'.1) hU'.2.word hN'.2.word
  have hown' : s'.vm.findClass own = some (tw_zm z).cls := by rw [hvm]; exact X.ow
  have hins : (Cond.instantiable cls 6).before (tw_zargs z) s' = true := h _ (by simp [tw_atX])
  obtain ⟨vm₁, cX, kX, hfX, hkX, -, -, X₁, st1⟩ := Y.newCold X.1 (own := own) (C := cls) (index := ik) (n := 6) hown' hk' hins hini' (g := F0 (tw_zm z) pc ls st) rfl (by rw [X.2.1]; exact d0) (Nat.le_refl _) (Nat.le_refl _)
  generalize hT1 : (T.setVm vm₁).pushCell { cls := cX, slots := kX.instanceTypes.map defaultValue, vm := .none } = T1 at X₁ st1
  have hcat : (Value.ref T.heap.size).category = 1 := rfl
  have hcellA : T1.heap[T.heap.size]? = some (freshCell cX kX) := by rw [← hT1]; exact State.heap_pushCell_size _ _
  have d3' : decode (tw_zc z).code (pc + 3) = .ok (.dup, 1) := by rw [X.2.1]; exact d3
  have d4' : decode (tw_zc z).code (pc + 4) = .ok (.ldc is, 2) := by rw [X.2.1]; exact d4
  have hstr' : vk_R own is text (tw_zS z j) s' := vk_R.warm hW0 (EVs.2.2.2.2.1 _ hj)
  obtain ⟨U, hsteps, hrun, hend, hW, hsame, ce, hce, hcv, hccl⟩ := tw_ctX X₁ X.1 htr (own := own) (cls := cls) (Y1 := Y1) (r := r) (ic := ic) x0 x1 x2 x5 hown' hcls hY1 hr h (fun x hx => nomatch hx) hfX hkX hcellA (by rw [hhp, hT]; exact Nat.le_refl _) (msg := .ref (tw_zS z j)) rfl
    (g := { method := (tw_zm z), pc := pc + 6, locals := ls, stack := .ref (tw_zS z j) :: .ref T.heap.size :: .ref T.heap.size :: st, locked := none }) rfl (hl.1.trans (X.2.2.2.2.2.2.trans X.2.2.1.symm)) rfl rfl (rest := st) rfl
    (by rw [X.2.1]; exact d6) (by rw [X.2.1]; exact d9) (fun y hy => (t8 y hy).elim) (by rw [hrl]; exact t2) (by rw [hrl]; simp only [List.map_cons, List.sum_cons, hcat]; show 2 * 0 + _ + _ ≤ _; omega) X.2.2.2.2.1
  obtain ⟨f1, f2⟩ := vx_frame hsame
  rw [hhp] at f1 f2
  have hWs : (tw_zs z).WarmedH U.vm := State.WarmedH.trans hW0 hW
  have hcl : (tw_zs z).vm.findClass cls = some ce.cls := by
    rw [hvm] at hccl
    exact hccl
  have hall : (tw_zs z).sameButNew ({ U with vm := (tw_zs z).vm } : State) locs 1 6 := by
    subst hA
    obtain ⟨e1, e2⟩ := hsame
    rw [State.setFrames_setFrames] at e1
    have h2 : (T.setVm (tw_zs z).vm).sameButNew ({ U with vm := (tw_zs z).vm } : State) [] (0 + 1) (0 + 6) := ⟨e1, e2⟩
    have h3 := Xs.same.trans h2
    rw [List.append_nil] at h3
    exact h3.mono (by rw [t6]; exact Nat.le_refl 1) (by rw [t7]; exact Nat.le_refl 6)
  refine ⟨U, ?_, .threw T.heap.size, hrun, hend, Or.inr ⟨T.heap.size, rfl, cls, ce, locs, tw_XCof hP hS f1 (fun q hq => f2 q hq (fun z hz => nomatch hz)), hce, hcv, hcl, hWs, hall, hS.2.2⟩⟩
  refine st1 _ ?_
  show Steps (tw_zp z).tables (tw_ze z) (tw_zbelow z) (T1.setTop { method := (tw_zm z), pc := pc + 3, locals := ls, stack := .ref T.heap.size :: st, locked := none }) _
  jvm_step X₁.here [X₁.here.top, X.1, d3', Value.category]
  exact X₁.ldcString X.1 (own := own) (text := text) (index := is) (a := tw_zS z j) hown' hstr'.1 hstr'.2 (g := { method := (tw_zm z), pc := pc + 4, locals := ls, stack := .ref T.heap.size :: .ref T.heap.size :: st, locked := none }) rfl d4' _ hsteps
end TWM
section TWMW
variable {ρ : Type} {z : tw_Z} {res : ρ ⊕ String} {cc : ByteArray} {own : String} {nL pc : Nat} {E : Option (ρ ⊕ String)} {σ : tw_Sg} {L : List (Nat × Value)} {st : List Value}
set_option maxHeartbeats 4000000 in
theorem r_thrXW {cls text Y1 : String} {r : List String} {ik is ic j ix : Nat} {rx : ByteArray} (x0 : decode rx 0 = .ok (.aload_n 0, 1)) (x1 : decode rx 1 = .ok (.aload_n 1, 1)) (x2 : decode rx 2 = .ok (.invokespecial ix, 3)) (x5 : decode rx 5 = .ok (.return_, 1)) (X : tw_X z cc own nL) (d0 : decode cc pc = .ok (.new ik, 3)) (d3 : decode cc (pc + 3) = .ok (.dup, 1)) (d4 : decode cc (pc + 4) = .ok (.ldc_w is, 3)) (d6 : decode cc (pc + 7) = .ok (.invokespecial ic, 3)) (d9 : decode cc (pc + 10) = .ok (.athrow, 1)) (hj : (own, is, text, j) ∈ tw_ldc) (hcls : Bundle.fit cls = true) (hY1 : Bundle.fit Y1 = true) (hr : ∀ n ∈ r, Bundle.fit n = true) (hrl : r.length = 1) (i : Nat) (hi : lw_tbl[i]? = some (.classLink own ik cls)) (hini : (Cond.initialized cls) ∈ lw_tbl) (hat : ∀ w ∈ (tw_atX own ic cls Y1 r ix rx).filter vx_no, w ∈ tw_AW)
    (hgood : ∀ w ∈ Cond.classLink own ik cls :: Cond.initialized cls :: (tw_atX own ic cls Y1 r ix rx).filter vx_no, vx_ot w = true) (hst : (st.map fun v => v.category).sum ≤ 8) (hT : tw_To z σ cls) : tw_Rf z res E σ pc L st := by
  obtain ⟨t1, t2, t3, t4, t5, t6, t7, t8, t9⟩ := hT
  intro hE H locs ls hP hS hl
  unfold tw_W
  rw [t9]
  intro T hT Xs
  have EVs := X.2.2.2.2.2.1
  have htr : (tw_ze z).platform.stackTraces = false := (show (tw_ze z).platform.stackTraces = (tw_zl z).stackTraces by rw [Xs.admits.platform]).trans t1
  have Y := vx_rebase Xs (R' := { frames := (tw_zR z).frames, locals := (tw_zR z).locals, cells := 1, slots := 6 }) (Nat.le_refl _) (Nat.le_refl _) (by rw [t6]; exact t4) (by rw [t7]; exact t5)
  obtain ⟨s', hA⟩ : ∃ q, q = (T.setVm (tw_zs z).vm).setFrames (.invoking (tw_zm z) (tw_zargs z) :: (tw_zbelow z)) := ⟨_, rfl⟩
  rw [← hA] at Y
  have hvm : s'.vm = (tw_zs z).vm := by rw [hA]; rfl
  have hhp : s'.heap = H := by rw [hA]; exact hT
  have hW0 : (tw_zs z).WarmedH s'.vm := by rw [hvm]; exact State.WarmedH.refl (tw_zs z)
  have hat' : ∀ w ∈ (tw_atX own ic cls Y1 r ix rx).filter vx_no, w.before (tw_zargs z) s' = true := fun w hw => vx_ot_at hW0 hvm.symm (hgood w (List.mem_cons_of_mem _ (List.mem_cons_of_mem _ hw))) (X.all w (hat w hw))
  have hk' : (Cond.classLink own ik cls).before (tw_zargs z) s' = true := vx_ot_at hW0 hvm.symm (hgood _ List.mem_cons_self) (X.ws i hi rfl)
  have hini' : (Cond.initialized cls).before (tw_zargs z) s' = true := vx_ot_at (args := tw_zargs z) hW0 hvm.symm (hgood _ (List.mem_cons_of_mem _ List.mem_cons_self)) ((EVs.1 _ hini rfl).use rfl)
  have hU' : vx_Zq Bundle.tN "UNASSIGNED_STACK" Bundle.steD (fun q => tw_zB z ≤ q) s' s'.heap := by rw [hhp]; exact vx_Zq.moved hW0.alike (EVs.2.2.2.2.2.1.1.kept hS.2.1)
  have hN' : vx_Zq Bundle.tN "SUPPRESSED_SENTINEL" Bundle.listD (fun q => tw_zB z ≤ q) s' s'.heap := by rw [hhp]; exact vx_Zq.moved hW0.alike (EVs.2.2.2.2.2.1.2.kept hS.2.1)
  have h : ∀ w ∈ tw_atX own ic cls Y1 r ix rx, w.before (tw_zargs z) s' = true := vx_own hat' (vx_isRefq hU'.1) (vx_isRefq hN'.1) hU'.2.word hN'.2.word
  have hown' : s'.vm.findClass own = some (tw_zm z).cls := by rw [hvm]; exact X.ow
  have hins : (Cond.instantiable cls 6).before (tw_zargs z) s' = true := h _ (by simp [tw_atX])
  obtain ⟨vm₁, cX, kX, hfX, hkX, -, -, X₁, st1⟩ := Y.newCold X.1 (own := own) (C := cls) (index := ik) (n := 6) hown' hk' hins hini' (g := F0 (tw_zm z) pc ls st) rfl (by rw [X.2.1]; exact d0) (Nat.le_refl _) (Nat.le_refl _)
  generalize hT1 : (T.setVm vm₁).pushCell { cls := cX, slots := kX.instanceTypes.map defaultValue, vm := .none } = T1 at X₁ st1
  have hcat : (Value.ref T.heap.size).category = 1 := rfl
  have hcellA : T1.heap[T.heap.size]? = some (freshCell cX kX) := by rw [← hT1]; exact State.heap_pushCell_size _ _
  have d3' : decode (tw_zc z).code (pc + 3) = .ok (.dup, 1) := by rw [X.2.1]; exact d3
  have d4' : decode (tw_zc z).code (pc + 4) = .ok (.ldc_w is, 3) := by rw [X.2.1]; exact d4
  have hstr' : vk_R own is text (tw_zS z j) s' := vk_R.warm hW0 (EVs.2.2.2.2.1 _ hj)
  obtain ⟨U, hsteps, hrun, hend, hW, hsame, ce, hce, hcv, hccl⟩ := tw_ctX X₁ X.1 htr (own := own) (cls := cls) (Y1 := Y1) (r := r) (ic := ic) x0 x1 x2 x5 hown' hcls hY1 hr h (fun x hx => nomatch hx) hfX hkX hcellA (by rw [hhp, hT]; exact Nat.le_refl _) (msg := .ref (tw_zS z j)) rfl
    (g := { method := (tw_zm z), pc := pc + 7, locals := ls, stack := .ref (tw_zS z j) :: .ref T.heap.size :: .ref T.heap.size :: st, locked := none }) rfl (hl.1.trans (X.2.2.2.2.2.2.trans X.2.2.1.symm)) rfl rfl (rest := st) rfl
    (by rw [X.2.1]; exact d6) (by rw [X.2.1]; exact d9) (fun y hy => (t8 y hy).elim) (by rw [hrl]; exact t2) (by rw [hrl]; simp only [List.map_cons, List.sum_cons, hcat]; show 2 * 0 + _ + _ ≤ _; omega) X.2.2.2.2.1
  obtain ⟨f1, f2⟩ := vx_frame hsame
  rw [hhp] at f1 f2
  have hWs : (tw_zs z).WarmedH U.vm := State.WarmedH.trans hW0 hW
  have hcl : (tw_zs z).vm.findClass cls = some ce.cls := by
    rw [hvm] at hccl
    exact hccl
  have hall : (tw_zs z).sameButNew ({ U with vm := (tw_zs z).vm } : State) locs 1 6 := by
    subst hA
    obtain ⟨e1, e2⟩ := hsame
    rw [State.setFrames_setFrames] at e1
    have h2 : (T.setVm (tw_zs z).vm).sameButNew ({ U with vm := (tw_zs z).vm } : State) [] (0 + 1) (0 + 6) := ⟨e1, e2⟩
    have h3 := Xs.same.trans h2
    rw [List.append_nil] at h3
    exact h3.mono (by rw [t6]; exact Nat.le_refl 1) (by rw [t7]; exact Nat.le_refl 6)
  refine ⟨U, ?_, .threw T.heap.size, hrun, hend, Or.inr ⟨T.heap.size, rfl, cls, ce, locs, tw_XCof hP hS f1 (fun q hq => f2 q hq (fun z hz => nomatch hz)), hce, hcv, hcl, hWs, hall, hS.2.2⟩⟩
  refine st1 _ ?_
  show Steps (tw_zp z).tables (tw_ze z) (tw_zbelow z) (T1.setTop { method := (tw_zm z), pc := pc + 3, locals := ls, stack := .ref T.heap.size :: st, locked := none }) _
  jvm_step X₁.here [X₁.here.top, X.1, d3', Value.category]
  exact X₁.ldcStringW X.1 (own := own) (text := text) (index := is) (a := tw_zS z j) hown' hstr'.1 hstr'.2 (g := { method := (tw_zm z), pc := pc + 4, locals := ls, stack := .ref T.heap.size :: .ref T.heap.size :: st, locked := none }) rfl d4' _ hsteps
end TWMW
theorem tw_n1 : lw_tbl[1090]? = some ((Jvm.Cond.classLink "TreasureWalk" (202 : Nat) "java/util/NoSuchElementException")) := by decide +kernel
theorem tw_n2 : lw_tbl[69]? = some ((Jvm.Cond.initialized "java/util/NoSuchElementException")) := by decide +kernel
theorem tw_th2_A {ρ : Type} {z : tw_Z} {res : ρ ⊕ String} {cc : ByteArray} {nL pc : Nat} {σ : tw_Sg} {L : List (Nat × Value)} {st : List Value} {is k : Nat} {text : String} (X : tw_X z cc "TreasureWalk" nL) (d0 : decode cc pc = .ok (.new 202, 3)) (d3 : decode cc (pc + 3) = .ok (.dup, 1)) (d4 : decode cc (pc + 4) = .ok (.ldc is, 2)) (d6 : decode cc (pc + 6) = .ok (.invokespecial 206, 3)) (d9 : decode cc (pc + 9) = .ok (.athrow, 1)) (hst : st = []) (hj : ("TreasureWalk", is, text, k) ∈ tw_ldc) (hT : ∀ y, res = .inr y → tw_To z σ y) : tw_Rf z res (some (Sum.inr "java/util/NoSuchElementException")) σ pc L st := by
  subst hst
  intro hE
  exact r_thrX (rx := prog_41_method_4_code) (ix := 13) (Y1 := "java/lang/RuntimeException") (r := ["java/lang/Exception"]) (by decide +kernel) (by decide +kernel) (by decide +kernel) (by decide +kernel) X d0 d3 d4 d6 d9 hj (by decide) (by decide) (by decide) rfl _ tw_n1 (List.mem_of_getElem? tw_n2) (by decide +kernel) (by decide +kernel) (Nat.zero_le 8) (hT _ (Option.some.inj hE).symm) hE
theorem tw_thw2_A {ρ : Type} {z : tw_Z} {res : ρ ⊕ String} {cc : ByteArray} {nL pc : Nat} {σ : tw_Sg} {L : List (Nat × Value)} {st : List Value} {is k : Nat} {text : String} (X : tw_X z cc "TreasureWalk" nL) (d0 : decode cc pc = .ok (.new 202, 3)) (d3 : decode cc (pc + 3) = .ok (.dup, 1)) (d4 : decode cc (pc + 4) = .ok (.ldc_w is, 3)) (d6 : decode cc (pc + 7) = .ok (.invokespecial 206, 3)) (d9 : decode cc (pc + 10) = .ok (.athrow, 1)) (hst : st = []) (hj : ("TreasureWalk", is, text, k) ∈ tw_ldc) (hT : ∀ y, res = .inr y → tw_To z σ y) : tw_Rf z res (some (Sum.inr "java/util/NoSuchElementException")) σ pc L st := by
  subst hst
  intro hE
  exact r_thrXW (rx := prog_41_method_4_code) (ix := 13) (Y1 := "java/lang/RuntimeException") (r := ["java/lang/Exception"]) (by decide +kernel) (by decide +kernel) (by decide +kernel) (by decide +kernel) X d0 d3 d4 d6 d9 hj (by decide) (by decide) (by decide) rfl _ tw_n1 (List.mem_of_getElem? tw_n2) (by decide +kernel) (by decide +kernel) (Nat.zero_le 8) (hT _ (Option.some.inj hE).symm) hE
