theorem tw_w_law : True := trivial
theorem tw_w501 : lw_tbl[501]? = some ((Jvm.Cond.methodLink "TreasureWalkLaw" (70 : Nat) ({ cls := "TreasureWalk", name := "append", desc := "(IIIII)I" } : Jvm.MethodName))) := by decide +kernel
theorem tw_w513 : lw_tbl[513]? = some ((Jvm.Cond.methodLink "TreasureWalkLaw" (85 : Nat) ({ cls := "TreasureWalk", name := "errorOffset", desc := "()I" } : Jvm.MethodName))) := by decide +kernel
theorem tw_w517 : lw_tbl[517]? = some ((Jvm.Cond.methodLink "TreasureWalkLaw" (119 : Nat) ({ cls := "TreasureWalk", name := "nearest", desc := "()I" } : Jvm.MethodName))) := by decide +kernel
theorem tw_w608 : lw_tbl[608]? = some ((Jvm.Cond.methodLink "TreasureWalkLaw" (123 : Nat) ({ cls := "TreasureWalk", name := "tour", desc := "()I" } : Jvm.MethodName))) := by decide +kernel
theorem tw_w649 : lw_tbl[649]? = some ((Jvm.Cond.methodLink "TreasureWalkLaw" (130 : Nat) ({ cls := "TreasureWalk", name := "meanDistance", desc := "()D" } : Jvm.MethodName))) := by decide +kernel
theorem tw_w657 : lw_tbl[657]? = some ((Jvm.Cond.methodLink "TreasureWalkLaw" (135 : Nat) ({ cls := "TreasureWalk", name := "chestIsLeft", desc := "()Z" } : Jvm.MethodName))) := by decide +kernel
theorem tw_w663 : lw_tbl[663]? = some ((Jvm.Cond.methodLink "TreasureWalkLaw" (143 : Nat) ({ cls := "TreasureWalk", name := "dig", desc := "()I" } : Jvm.MethodName))) := by decide +kernel
theorem tw_w693 : lw_tbl[693]? = some ((Jvm.Cond.methodLink "TreasureWalkLaw" (157 : Nat) ({ cls := "TreasureWalk", name := "undo", desc := "()I" } : Jvm.MethodName))) := by decide +kernel
theorem tw_w753 : lw_tbl[753]? = some ((Jvm.Cond.methodLink "TreasureWalkLaw" (161 : Nat) ({ cls := "TreasureWalk", name := "checksum", desc := "()J" } : Jvm.MethodName))) := by decide +kernel
theorem tw_w1347 : lw_tbl[1347]? = some ((Jvm.Cond.methodLink "TreasureWalkLaw" (81 : Nat) ({ cls := "TreasureWalkModel", name := "thrown", desc := "()I" } : Jvm.MethodName))) := by decide +kernel
theorem tw_w1351 : lw_tbl[1351]? = some ((Jvm.Cond.methodLink "TreasureWalkLaw" (74 : Nat) ({ cls := "TreasureWalkModel", name := "append", desc := "(IIIII)I" } : Jvm.MethodName))) := by decide +kernel
theorem tw_w1355 : lw_tbl[1355]? = some ((Jvm.Cond.methodLink "TreasureWalkLaw" (80 : Nat) ({ cls := "TreasureWalkModel", name := "load", desc := "(I)I" } : Jvm.MethodName))) := by decide +kernel
theorem tw_w1499 : lw_tbl[1499]? = some ((Jvm.Cond.methodLink "TreasureWalkLaw" (88 : Nat) ({ cls := "TreasureWalkModel", name := "errorOffset", desc := "()I" } : Jvm.MethodName))) := by decide +kernel
theorem tw_w1503 : lw_tbl[1503]? = some ((Jvm.Cond.methodLink "TreasureWalkLaw" (91 : Nat) ({ cls := "TreasureWalkModel", name := "state", desc := "(I)I" } : Jvm.MethodName))) := by decide +kernel
theorem tw_w1592 : lw_tbl[1592]? = some ((Jvm.Cond.methodLink "TreasureWalkLaw" (95 : Nat) ({ cls := "TreasureWalkModel", name := "cell", desc := "(II)I" } : Jvm.MethodName))) := by decide +kernel
theorem tw_w1604 : lw_tbl[1604]? = some ((Jvm.Cond.methodLink "TreasureWalkLaw" (99 : Nat) ({ cls := "TreasureWalkModel", name := "pace", desc := "(III)I" } : Jvm.MethodName))) := by decide +kernel
theorem tw_w1608 : lw_tbl[1608]? = some ((Jvm.Cond.methodLink "TreasureWalkLaw" (102 : Nat) ({ cls := "TreasureWalkModel", name := "reached", desc := "(II)I" } : Jvm.MethodName))) := by decide +kernel
theorem tw_w1620 : lw_tbl[1620]? = some ((Jvm.Cond.methodLink "TreasureWalkLaw" (105 : Nat) ({ cls := "TreasureWalkModel", name := "ends", desc := "(III)Z" } : Jvm.MethodName))) := by decide +kernel
theorem tw_w1624 : lw_tbl[1624]? = some ((Jvm.Cond.methodLink "TreasureWalkLaw" (108 : Nat) ({ cls := "TreasureWalkModel", name := "why", desc := "(II)I" } : Jvm.MethodName))) := by decide +kernel
theorem tw_w1628 : lw_tbl[1628]? = some ((Jvm.Cond.methodLink "TreasureWalkLaw" (112 : Nat) ({ cls := "TreasureWalkModel", name := "walk", desc := "(IIII)I" } : Jvm.MethodName))) := by decide +kernel
theorem tw_w1640 : lw_tbl[1640]? = some ((Jvm.Cond.methodLink "TreasureWalkLaw" (115 : Nat) ({ cls := "TreasureWalkModel", name := "starts", desc := "(III)I" } : Jvm.MethodName))) := by decide +kernel
theorem tw_w1644 : lw_tbl[1644]? = some ((Jvm.Cond.methodLink "TreasureWalkLaw" (118 : Nat) ({ cls := "TreasureWalkModel", name := "distance", desc := "(II)I" } : Jvm.MethodName))) := by decide +kernel
theorem tw_w1652 : lw_tbl[1652]? = some ((Jvm.Cond.methodLink "TreasureWalkLaw" (122 : Nat) ({ cls := "TreasureWalkModel", name := "nearest", desc := "()I" } : Jvm.MethodName))) := by decide +kernel
theorem tw_w1656 : lw_tbl[1656]? = some ((Jvm.Cond.methodLink "TreasureWalkLaw" (126 : Nat) ({ cls := "TreasureWalkModel", name := "tour", desc := "()I" } : Jvm.MethodName))) := by decide +kernel
theorem tw_w1665 : lw_tbl[1665]? = some ((Jvm.Cond.methodLink "TreasureWalkLaw" (129 : Nat) ({ cls := "TreasureWalkModel", name := "part", desc := "(II)I" } : Jvm.MethodName))) := by decide +kernel
theorem tw_w1669 : lw_tbl[1669]? = some ((Jvm.Cond.methodLink "TreasureWalkLaw" (134 : Nat) ({ cls := "TreasureWalkModel", name := "meanDistance", desc := "()D" } : Jvm.MethodName))) := by decide +kernel
theorem tw_w1673 : lw_tbl[1673]? = some ((Jvm.Cond.methodLink "TreasureWalkLaw" (139 : Nat) ({ cls := "TreasureWalkModel", name := "chestIsLeft", desc := "()Z" } : Jvm.MethodName))) := by decide +kernel
theorem tw_w1677 : lw_tbl[1677]? = some ((Jvm.Cond.methodLink "TreasureWalkLaw" (142 : Nat) ({ cls := "TreasureWalkModel", name := "moveTo", desc := "(II)I" } : Jvm.MethodName))) := by decide +kernel
theorem tw_w1681 : lw_tbl[1681]? = some ((Jvm.Cond.methodLink "TreasureWalkLaw" (146 : Nat) ({ cls := "TreasureWalkModel", name := "dig", desc := "()I" } : Jvm.MethodName))) := by decide +kernel
theorem tw_w1685 : lw_tbl[1685]? = some ((Jvm.Cond.methodLink "TreasureWalkLaw" (150 : Nat) ({ cls := "TreasureWalkModel", name := "use", desc := "(IZ)I" } : Jvm.MethodName))) := by decide +kernel
theorem tw_w1689 : lw_tbl[1689]? = some ((Jvm.Cond.methodLink "TreasureWalkLaw" (153 : Nat) ({ cls := "TreasureWalkModel", name := "hide", desc := "(I)I" } : Jvm.MethodName))) := by decide +kernel
theorem tw_w1693 : lw_tbl[1693]? = some ((Jvm.Cond.methodLink "TreasureWalkLaw" (156 : Nat) ({ cls := "TreasureWalkModel", name := "turn", desc := "(II)I" } : Jvm.MethodName))) := by decide +kernel
theorem tw_w1697 : lw_tbl[1697]? = some ((Jvm.Cond.methodLink "TreasureWalkLaw" (160 : Nat) ({ cls := "TreasureWalkModel", name := "undo", desc := "()I" } : Jvm.MethodName))) := by decide +kernel
theorem tw_w1701 : lw_tbl[1701]? = some ((Jvm.Cond.methodLink "TreasureWalkLaw" (165 : Nat) ({ cls := "TreasureWalkModel", name := "checksum", desc := "()J" } : Jvm.MethodName))) := by decide +kernel
/-! THE LAW'S LOOP -/
section TWL
variable {ρ : Type} {z : tw_Z} {res : ρ} {cc : ByteArray} {own : String} {nL pc : Nat} {E : Option ρ} {σ σ' : tw_Sg} {L L' : List (Nat × Value)} {st st0 : List Value}
theorem r_wid (k : tw_Rf (tw_c1 z) res E σ pc L st) : tw_Rf z res E σ pc L st := fun hE H locs ls hP hS hl => W.widen (Nat.le_succ _) (Nat.le_add_right _ 6) (k hE H locs ls hP hS hl)
theorem r_jnC {α : Type} {r : α → Option ρ} {b : (α → Option ρ) → Option ρ} {σJ : α → tw_Sg} {pcJ : Nat} {LJ : α → List (Nat × Value)} {stJ : α → List Value} {ok : α → Prop}
    (hr : ∀ a, ok a → tw_Rf (tw_c1 z) res (r a) (σJ a) pcJ (LJ a) (stJ a)) (hb : ∀ f : α → Option ρ, (∀ a, ok a → tw_Rf (tw_c1 z) res (f a) (σJ a) pcJ (LJ a) (stJ a)) → tw_Rf z res (b f) σ pc L st) : tw_Rf z res (tw_jn r b) σ pc L st := hb r hr
variable {ix mL n : Nat} {y : MethodName} {cy : ByteArray} {ret : Option FieldType} {hh : List (Nat × Nat × Nat × Nat)} {rm : Room} {As : List Value} {rv : Option Value}
theorem r_callSW (X : tw_X z cc own nL) (d : decode cc pc = .ok (.invokestatic ix, 3)) (hM : tw_MetW (tw_zl z) (tw_zB z) (tw_zD z) (tw_zC z) (tw_zS z) y cy mL ret hh rm As σ rv σ') (hy : tw_Mw y cy mL ret hh n) (i : Nat) (hi : lw_tbl[i]? = some (.methodLink own ix y)) (hn : As.length = n) (hR : tw_Rm (tw_zR z) rm mL 1 6) (hc1 : tw_zcells z + 1 ≤ (tw_zR z).cells ∧ tw_zslots z + 6 ≤ (tw_zR z).slots) (hst : (st.map fun v => v.category).sum ≤ 8) (hs0 : st0 = As.reverse ++ st) (kk : tw_Rf (tw_c1 z) res E σ' (pc + 3) L (rv.toList ++ st)) : tw_Rf z res E σ pc L st0 := by
  subst hs0
  obtain ⟨h1, h2, h3, h4, h5⟩ := hy
  obtain ⟨r1, r2, r3, r4⟩ := hR
  intro hE H locs ls hP hS hl T0 hT0 X0
  obtain ⟨v, st₀, t, T', Lc, h0, X', hL, e1, e2, ⟨⟨hv, hp⟩, hz, hk⟩, st1⟩ := vx_runSW (As := As) (rest := st) (tw_fix X) hM (index := ix) (n := n) ⟨⟨r1, r2, r3, r4, fun w hw a' U hW => by rw [List.mem_singleton.mp hw]; exact ((X.2.2.2.2.2.1.1.warm hW) _ h1 rfl).use rfl, List.mem_singleton.mpr rfl⟩, tw_wd X h1 rfl, tw_wd X h2 rfl, h3, fun sig h => by rw [h] at h4; exact (Option.some.inj h4).symm, X.ws i hi rfl, tw_wd X h5 rfl⟩ (tw_preS X hP hS) (g := F0 (tw_zm z) pc ls (As.reverse ++ st)) rfl hn (hl.1.trans X.2.2.2.2.2.2) rfl (lv_room hst) d hc1 T0 hT0 X0
  cases hv
  rw [h0] at hz hk
  obtain ⟨t2, a1, b1⟩ := kk hE T'.heap (locs ++ Lc) ls (by unfold tw_PP; rw [e1]; exact hp) ⟨Nat.le_trans hS.1 (by rw [e1]; exact hz), fun q h1 h2 => by rw [e1, hk q (Nat.lt_of_lt_of_le h1 hS.1) h2]; exact hS.2.1 q h1 h2, fun q hq => by
      rcases List.mem_append.mp hq with h | h
      · exact hS.2.2 q h
      · exact hL q h⟩ hl T' rfl X'
  exact ⟨t2, st1 t2 a1, b1⟩
variable {b Ln : Nat} {xs : Nat → Int32}
theorem r_sld {i : Int32} (X : tw_X z cc own nL) (hX : va_X b Ln xs (tw_zs z) (tw_zs z).heap) (hbl : b < (tw_zs z).heap.size) (hbB : b < tw_zB z) (d : decode cc pc = .ok (.iaload, 1)) (kk : tw_Rf z res E σ (pc + 1) L (.int (xs i.toNatClampNeg) :: st)) : tw_Rf z res (tw_ck (tw_ok i Ln) E) σ pc L (.int i :: .ref b :: st) :=
  r_ck (fun hc => fun hE H locs ls hP hS hl => va_sld X.1 X.2.1 hX hbl (Nat.not_le.mpr hbB) hS (tw_ok_in hc) d (kk hE H locs ls hP hS hl))
theorem r_slen' (X : tw_X z cc own nL) (hX : va_X b Ln xs (tw_zs z) (tw_zs z).heap) (hbl : b < (tw_zs z).heap.size) (hbB : b < tw_zB z) (d : decode cc pc = .ok (.arraylength, 1)) (kk : tw_Rf z res E σ (pc + 1) L (.int (Int32.ofNat Ln) :: st)) : tw_Rf z res E σ pc L (.ref b :: st) :=
  fun hE H locs ls hP hS hl => va_slen X.1 X.2.1 hX hbl (Nat.not_le.mpr hbB) hS d (kk hE H locs ls hP hS hl)
theorem r_dcmp {x y : UInt64} {op : CmpOp} (X : tw_X z cc own nL) (d : decode cc pc = .ok (.dcmp op, 1)) (kk : tw_Rf z res E σ (pc + 1) L (.int (Op.cmpValue (FP.dcmp x y) op) :: st)) : tw_Rf z res E σ pc L (.double y :: .double x :: st) :=
  fun hE H locs ls hP hS hl => lv_dcmp X.1 X.2.1 d (kk hE H locs ls hP hS hl)
theorem r_dload {i : Nat} {x : UInt64} (X : tw_X z cc own nL) (d : decode cc pc = .ok (.dload i, 2)) (q : Nat) (hq : L[q]? = some (i, .double x)) (k : tw_Rf z res E σ (pc + 2) L (.double x :: st)) : tw_Rf z res E σ pc L st := fun hE H locs ls hP hS hl => lv_dload X.1 X.2.1 d (tw_hl hl q hq) (k hE H locs ls hP hS hl)
theorem r_dstore {i : Nat} {x : UInt64} {K : UInt64 → Option ρ} {LL : UInt64 → List (Nat × Value)} (X : tw_X z cc own nL) (d : decode cc pc = .ok (.dstore i, 2)) (hn : i + 1 < nL) (hL : ∀ x, (i, Value.double x) :: L.filter (fun q => !(q.1 == i) && (!(q.1 == i + 1) && !(q.1 + 1 == i && q.2.category == 2))) = LL x) (k : ∀ x, tw_Rf z res (K x) σ (pc + 2) (LL x) st) : tw_Rf z res (tw_lt x K) σ pc L (.double x :: st) := fun hE H locs ls hP hS hl => lv_dstore X.1 X.2.1 d hl (tw_nLt X hn) (hL x) (fun ls' hl' => k x hE H locs ls' hP hS hl')
end TWL
theorem tw_z883 : lw_tbl[883]? = some ((Jvm.Cond.methodLink "TreasureWalkLaw" (75 : Nat) ({ cls := "TreasureWalkLaw", name := "load", desc := "(LTreasureWalk;I[J)I" } : Jvm.MethodName))) := by decide +kernel
theorem tw_z1088 : lw_tbl[1088]? = some ((Jvm.Cond.methodLink "TreasureWalkLaw" (89 : Nat) ({ cls := "TreasureWalkLaw", name := "state", desc := "(LTreasureWalk;I[J)I" } : Jvm.MethodName))) := by decide +kernel
theorem tw_z1092 : lw_tbl[1092]? = some ((Jvm.Cond.methodLink "TreasureWalkLaw" (92 : Nat) ({ cls := "TreasureWalkLaw", name := "cell", desc := "(LTreasureWalk;II[J)I" } : Jvm.MethodName))) := by decide +kernel
theorem tw_z1097 : lw_tbl[1097]? = some ((Jvm.Cond.methodLink "TreasureWalkLaw" (96 : Nat) ({ cls := "TreasureWalkLaw", name := "pace", desc := "(LTreasureWalk;III[J)I" } : Jvm.MethodName))) := by decide +kernel
theorem tw_z1106 : lw_tbl[1106]? = some ((Jvm.Cond.methodLink "TreasureWalkLaw" (100 : Nat) ({ cls := "TreasureWalkLaw", name := "reached", desc := "(LTreasureWalk;II[J)I" } : Jvm.MethodName))) := by decide +kernel
theorem tw_z1110 : lw_tbl[1110]? = some ((Jvm.Cond.methodLink "TreasureWalkLaw" (103 : Nat) ({ cls := "TreasureWalkLaw", name := "ends", desc := "(LTreasureWalk;III[J)I" } : Jvm.MethodName))) := by decide +kernel
theorem tw_z1118 : lw_tbl[1118]? = some ((Jvm.Cond.methodLink "TreasureWalkLaw" (106 : Nat) ({ cls := "TreasureWalkLaw", name := "why", desc := "(LTreasureWalk;II[J)I" } : Jvm.MethodName))) := by decide +kernel
theorem tw_z1129 : lw_tbl[1129]? = some ((Jvm.Cond.methodLink "TreasureWalkLaw" (109 : Nat) ({ cls := "TreasureWalkLaw", name := "walk", desc := "(LTreasureWalk;IIII[J)I" } : Jvm.MethodName))) := by decide +kernel
theorem tw_z1174 : lw_tbl[1174]? = some ((Jvm.Cond.methodLink "TreasureWalkLaw" (113 : Nat) ({ cls := "TreasureWalkLaw", name := "starts", desc := "(LTreasureWalk;III[J)I" } : Jvm.MethodName))) := by decide +kernel
theorem tw_z1185 : lw_tbl[1185]? = some ((Jvm.Cond.methodLink "TreasureWalkLaw" (116 : Nat) ({ cls := "TreasureWalkLaw", name := "distance", desc := "(LTreasureWalk;II[J)I" } : Jvm.MethodName))) := by decide +kernel
theorem tw_z1193 : lw_tbl[1193]? = some ((Jvm.Cond.methodLink "TreasureWalkLaw" (127 : Nat) ({ cls := "TreasureWalkLaw", name := "part", desc := "(LTreasureWalk;II[J)I" } : Jvm.MethodName))) := by decide +kernel
theorem tw_z1204 : lw_tbl[1204]? = some ((Jvm.Cond.methodLink "TreasureWalkLaw" (140 : Nat) ({ cls := "TreasureWalkLaw", name := "moveTo", desc := "(LTreasureWalk;II[J)I" } : Jvm.MethodName))) := by decide +kernel
theorem tw_z1211 : lw_tbl[1211]? = some ((Jvm.Cond.methodLink "TreasureWalkLaw" (147 : Nat) ({ cls := "TreasureWalkLaw", name := "use", desc := "(LTreasureWalk;IZ[J)I" } : Jvm.MethodName))) := by decide +kernel
theorem tw_z1219 : lw_tbl[1219]? = some ((Jvm.Cond.methodLink "TreasureWalkLaw" (151 : Nat) ({ cls := "TreasureWalkLaw", name := "hide", desc := "(LTreasureWalk;I[J)I" } : Jvm.MethodName))) := by decide +kernel
theorem tw_z1228 : lw_tbl[1228]? = some ((Jvm.Cond.methodLink "TreasureWalkLaw" (154 : Nat) ({ cls := "TreasureWalkLaw", name := "turn", desc := "(LTreasureWalk;II[J)I" } : Jvm.MethodName))) := by decide +kernel
theorem tw_out23 {x : Int32} (h0 : ¬ x = 0) (h1 : ¬ x = 1) (h2 : ¬ x = 2) (h3 : ¬ x = 3) (h4 : ¬ x = 4) (h5 : ¬ x = 5) (h6 : ¬ x = 6) (h7 : ¬ x = 7) (h8 : ¬ x = 8) (h9 : ¬ x = 9) (h10 : ¬ x = 10) (h11 : ¬ x = 11) (h12 : ¬ x = 12) (h13 : ¬ x = 13) (h14 : ¬ x = 14) (h15 : ¬ x = 15) (h16 : ¬ x = 16) (h17 : ¬ x = 17) (h18 : ¬ x = 18) (h19 : ¬ x = 19) (h20 : ¬ x = 20) (h21 : ¬ x = 21) (h22 : ¬ x = 22) (h23 : ¬ x = 23) : x.toInt < 0 ∨ (23 : Int) < x.toInt := by
  have e : ∀ v : Int32, ¬ x = v → ¬ x.toInt = v.toInt := fun v h q => h (Int32.toInt_inj.mp q)
  have g0 : ¬ x.toInt = 0 := e 0 h0
  have g1 : ¬ x.toInt = 1 := e 1 h1
  have g2 : ¬ x.toInt = 2 := e 2 h2
  have g3 : ¬ x.toInt = 3 := e 3 h3
  have g4 : ¬ x.toInt = 4 := e 4 h4
  have g5 : ¬ x.toInt = 5 := e 5 h5
  have g6 : ¬ x.toInt = 6 := e 6 h6
  have g7 : ¬ x.toInt = 7 := e 7 h7
  have g8 : ¬ x.toInt = 8 := e 8 h8
  have g9 : ¬ x.toInt = 9 := e 9 h9
  have g10 : ¬ x.toInt = 10 := e 10 h10
  have g11 : ¬ x.toInt = 11 := e 11 h11
  have g12 : ¬ x.toInt = 12 := e 12 h12
  have g13 : ¬ x.toInt = 13 := e 13 h13
  have g14 : ¬ x.toInt = 14 := e 14 h14
  have g15 : ¬ x.toInt = 15 := e 15 h15
  have g16 : ¬ x.toInt = 16 := e 16 h16
  have g17 : ¬ x.toInt = 17 := e 17 h17
  have g18 : ¬ x.toInt = 18 := e 18 h18
  have g19 : ¬ x.toInt = 19 := e 19 h19
  have g20 : ¬ x.toInt = 20 := e 20 h20
  have g21 : ¬ x.toInt = 21 := e 21 h21
  have g22 : ¬ x.toInt = 22 := e 22 h22
  have g23 : ¬ x.toInt = 23 := e 23 h23
  omega
def tw_lawB (n Ln : Nat) (xs : Nat → Int32) (kk : Int32 × tw_Sg → Option Int32) (a0 : Int32 × tw_Sg) : Option Int32 :=
if ((Int32.ofNat Ln) - (6 : Int32)) < a0.1 then (some (1 : Int32))
else (tw_ck (tw_ok a0.1 Ln) (
tw_jn (fun (a1 : tw_Sg) =>
tw_lt (a0.1 + (6 : Int32)) (fun (v3 : Int32) =>
kk (v3, a1))) (fun (j2 : (tw_Sg) → Option (Int32)) =>
if ((xs (Int32.toNatClampNeg a0.1)) &&& (31 : Int32)) = (0 : Int32) then (tw_ck (tw_ok (a0.1 + (1 : Int32)) Ln) (
tw_ck (tw_ok (a0.1 + (2 : Int32)) Ln) (
tw_ck (tw_ok (a0.1 + (3 : Int32)) Ln) (
tw_ck (tw_ok (a0.1 + (4 : Int32)) Ln) (
tw_ck (tw_ok (a0.1 + (5 : Int32)) Ln) (
tw_bd (tw_P_X11_append n (xs (Int32.toNatClampNeg (a0.1 + (1 : Int32)))) (xs (Int32.toNatClampNeg (a0.1 + (2 : Int32)))) (xs (Int32.toNatClampNeg (a0.1 + (3 : Int32)))) (xs (Int32.toNatClampNeg (a0.1 + (4 : Int32)))) (xs (Int32.toNatClampNeg (a0.1 + (5 : Int32)))) a0.2) (fun r5 =>
tw_ck (tw_ok (a0.1 + (1 : Int32)) Ln) (
tw_ck (tw_ok (a0.1 + (2 : Int32)) Ln) (
tw_ck (tw_ok (a0.1 + (3 : Int32)) Ln) (
tw_ck (tw_ok (a0.1 + (4 : Int32)) Ln) (
tw_ck (tw_ok (a0.1 + (5 : Int32)) Ln) (
tw_bd (tw_P_X12_append n (xs (Int32.toNatClampNeg (a0.1 + (1 : Int32)))) (xs (Int32.toNatClampNeg (a0.1 + (2 : Int32)))) (xs (Int32.toNatClampNeg (a0.1 + (3 : Int32)))) (xs (Int32.toNatClampNeg (a0.1 + (4 : Int32)))) (xs (Int32.toNatClampNeg (a0.1 + (5 : Int32)))) r5.2) (fun r6 =>
if r5.1 = r6.1 then (j2 r6.2)
else (some (0 : Int32)))))))))))))))
else (if ((xs (Int32.toNatClampNeg a0.1)) &&& (31 : Int32)) = (1 : Int32) then (tw_ck (tw_ok (a0.1 + (1 : Int32)) Ln) (
tw_bd (tw_P_L_load n (xs (Int32.toNatClampNeg (a0.1 + (1 : Int32)))) a0.2) (fun r8 =>
tw_lt r8.1 (fun (v9 : Int32) =>
tw_ck (tw_ok (a0.1 + (1 : Int32)) Ln) (
tw_bd (tw_P_X12_load n (xs (Int32.toNatClampNeg (a0.1 + (1 : Int32)))) r8.2) (fun r10 =>
tw_lt r10.1 (fun (v11 : Int32) =>
tw_bd (tw_P_X12_thrown r10.2) (fun r12 =>
if r12 = v9 then (tw_jn (fun (a13 : Unit) =>
j2 r10.2) (fun (j14 : (Unit) → Option (Int32)) =>
if ¬ v9 = 0 then (j14 ())
else (tw_ck (tw_ok (0 : Int32) (tw_ln 1036)) (
if (lg_cmp (Int32.toInt64 (r10.2 1036 (Int32.toNatClampNeg (0 : Int32)))) (Int32.toInt64 v11)) = 0 then (j14 ())
else (some (0 : Int32))))))
else (some (0 : Int32))))))))))
else (if ((xs (Int32.toNatClampNeg a0.1)) &&& (31 : Int32)) = (2 : Int32) then (tw_bd (tw_P_X11_errorOffset a0.2) (fun r16 =>
tw_bd (tw_P_X12_errorOffset a0.2) (fun r17 =>
if r16 = r17.1 then (j2 r17.2)
else (some (0 : Int32)))))
else (if ((xs (Int32.toNatClampNeg a0.1)) &&& (31 : Int32)) = (3 : Int32) then (tw_ck (tw_ok (a0.1 + (1 : Int32)) Ln) (
tw_bd (tw_P_L_state n (xs (Int32.toNatClampNeg (a0.1 + (1 : Int32)))) a0.2) (fun r19 =>
tw_lt r19.1 (fun (v20 : Int32) =>
tw_ck (tw_ok (a0.1 + (1 : Int32)) Ln) (
tw_bd (tw_P_X12_state n (xs (Int32.toNatClampNeg (a0.1 + (1 : Int32)))) r19.2) (fun r21 =>
tw_lt r21.1 (fun (v22 : Int32) =>
tw_bd (tw_P_X12_thrown r21.2) (fun r23 =>
if r23 = v20 then (tw_jn (fun (a24 : Unit) =>
j2 r21.2) (fun (j25 : (Unit) → Option (Int32)) =>
if ¬ v20 = 0 then (j25 ())
else (tw_ck (tw_ok (0 : Int32) (tw_ln 1036)) (
if (lg_cmp (Int32.toInt64 (r21.2 1036 (Int32.toNatClampNeg (0 : Int32)))) (Int32.toInt64 v22)) = 0 then (j25 ())
else (some (0 : Int32))))))
else (some (0 : Int32))))))))))
else (if ((xs (Int32.toNatClampNeg a0.1)) &&& (31 : Int32)) = (4 : Int32) then (tw_ck (tw_ok (a0.1 + (1 : Int32)) Ln) (
tw_ck (tw_ok (a0.1 + (2 : Int32)) Ln) (
tw_bd (tw_P_L_cell n (xs (Int32.toNatClampNeg (a0.1 + (1 : Int32)))) (xs (Int32.toNatClampNeg (a0.1 + (2 : Int32)))) a0.2) (fun r27 =>
tw_lt r27.1 (fun (v28 : Int32) =>
tw_ck (tw_ok (a0.1 + (1 : Int32)) Ln) (
tw_ck (tw_ok (a0.1 + (2 : Int32)) Ln) (
tw_bd (tw_P_X12_cell n (xs (Int32.toNatClampNeg (a0.1 + (1 : Int32)))) (xs (Int32.toNatClampNeg (a0.1 + (2 : Int32)))) r27.2) (fun r29 =>
tw_lt r29.1 (fun (v30 : Int32) =>
tw_bd (tw_P_X12_thrown r29.2) (fun r31 =>
if r31 = v28 then (tw_jn (fun (a32 : Unit) =>
j2 r29.2) (fun (j33 : (Unit) → Option (Int32)) =>
if ¬ v28 = 0 then (j33 ())
else (tw_ck (tw_ok (0 : Int32) (tw_ln 1036)) (
if (lg_cmp (Int32.toInt64 (r29.2 1036 (Int32.toNatClampNeg (0 : Int32)))) (Int32.toInt64 v30)) = 0 then (j33 ())
else (some (0 : Int32))))))
else (some (0 : Int32))))))))))))
else (if ((xs (Int32.toNatClampNeg a0.1)) &&& (31 : Int32)) = (5 : Int32) then (tw_ck (tw_ok (a0.1 + (1 : Int32)) Ln) (
tw_ck (tw_ok (a0.1 + (2 : Int32)) Ln) (
tw_ck (tw_ok (a0.1 + (3 : Int32)) Ln) (
tw_bd (tw_P_L_pace n (xs (Int32.toNatClampNeg (a0.1 + (1 : Int32)))) (xs (Int32.toNatClampNeg (a0.1 + (2 : Int32)))) (xs (Int32.toNatClampNeg (a0.1 + (3 : Int32)))) a0.2) (fun r35 =>
tw_lt r35.1 (fun (v36 : Int32) =>
tw_ck (tw_ok (a0.1 + (1 : Int32)) Ln) (
tw_ck (tw_ok (a0.1 + (2 : Int32)) Ln) (
tw_ck (tw_ok (a0.1 + (3 : Int32)) Ln) (
tw_bd (tw_P_X12_pace n (xs (Int32.toNatClampNeg (a0.1 + (1 : Int32)))) (xs (Int32.toNatClampNeg (a0.1 + (2 : Int32)))) (xs (Int32.toNatClampNeg (a0.1 + (3 : Int32)))) r35.2) (fun r37 =>
tw_lt r37.1 (fun (v38 : Int32) =>
tw_bd (tw_P_X12_thrown r37.2) (fun r39 =>
if r39 = v36 then (tw_jn (fun (a40 : Unit) =>
j2 r37.2) (fun (j41 : (Unit) → Option (Int32)) =>
if ¬ v36 = 0 then (j41 ())
else (tw_ck (tw_ok (0 : Int32) (tw_ln 1036)) (
if (lg_cmp (Int32.toInt64 (r37.2 1036 (Int32.toNatClampNeg (0 : Int32)))) (Int32.toInt64 v38)) = 0 then (j41 ())
else (some (0 : Int32))))))
else (some (0 : Int32))))))))))))))
else (if ((xs (Int32.toNatClampNeg a0.1)) &&& (31 : Int32)) = (6 : Int32) then (tw_ck (tw_ok (a0.1 + (1 : Int32)) Ln) (
tw_ck (tw_ok (a0.1 + (2 : Int32)) Ln) (
tw_bd (tw_P_L_reached n (xs (Int32.toNatClampNeg (a0.1 + (1 : Int32)))) (xs (Int32.toNatClampNeg (a0.1 + (2 : Int32)))) a0.2) (fun r43 =>
tw_lt r43.1 (fun (v44 : Int32) =>
tw_ck (tw_ok (a0.1 + (1 : Int32)) Ln) (
tw_ck (tw_ok (a0.1 + (2 : Int32)) Ln) (
tw_bd (tw_P_X12_reached n (xs (Int32.toNatClampNeg (a0.1 + (1 : Int32)))) (xs (Int32.toNatClampNeg (a0.1 + (2 : Int32)))) r43.2) (fun r45 =>
tw_lt r45.1 (fun (v46 : Int32) =>
tw_bd (tw_P_X12_thrown r45.2) (fun r47 =>
if r47 = v44 then (tw_jn (fun (a48 : Unit) =>
j2 r45.2) (fun (j49 : (Unit) → Option (Int32)) =>
if ¬ v44 = 0 then (j49 ())
else (tw_ck (tw_ok (0 : Int32) (tw_ln 1036)) (
if (lg_cmp (Int32.toInt64 (r45.2 1036 (Int32.toNatClampNeg (0 : Int32)))) (Int32.toInt64 v46)) = 0 then (j49 ())
else (some (0 : Int32))))))
else (some (0 : Int32))))))))))))
else (if ((xs (Int32.toNatClampNeg a0.1)) &&& (31 : Int32)) = (7 : Int32) then (tw_ck (tw_ok (a0.1 + (1 : Int32)) Ln) (
tw_ck (tw_ok (a0.1 + (2 : Int32)) Ln) (
tw_ck (tw_ok (a0.1 + (3 : Int32)) Ln) (
tw_bd (tw_P_L_ends n (xs (Int32.toNatClampNeg (a0.1 + (1 : Int32)))) (xs (Int32.toNatClampNeg (a0.1 + (2 : Int32)))) (xs (Int32.toNatClampNeg (a0.1 + (3 : Int32)))) a0.2) (fun r51 =>
tw_lt r51.1 (fun (v52 : Int32) =>
tw_ck (tw_ok (a0.1 + (1 : Int32)) Ln) (
tw_ck (tw_ok (a0.1 + (2 : Int32)) Ln) (
tw_ck (tw_ok (a0.1 + (3 : Int32)) Ln) (
tw_bd (tw_P_X12_ends n (xs (Int32.toNatClampNeg (a0.1 + (1 : Int32)))) (xs (Int32.toNatClampNeg (a0.1 + (2 : Int32)))) (xs (Int32.toNatClampNeg (a0.1 + (3 : Int32)))) r51.2) (fun r53 =>
tw_lt r53.1 (fun (v54 : Int32) =>
tw_bd (tw_P_X12_thrown r53.2) (fun r55 =>
if r55 = v52 then (tw_jn (fun (a56 : Unit) =>
j2 r53.2) (fun (j57 : (Unit) → Option (Int32)) =>
if ¬ v52 = 0 then (j57 ())
else (tw_ck (tw_ok (0 : Int32) (tw_ln 1036)) (
tw_jn (fun (a58 : Int64) =>
if (lg_cmp (Int32.toInt64 (r53.2 1036 (Int32.toNatClampNeg (0 : Int32)))) a58) = 0 then (j57 ())
else (some (0 : Int32))) (fun (j59 : (Int64) → Option (Int32)) =>
if v54 = 0 then (j59 (0 : Int64))
else (j59 (1 : Int64)))))))
else (some (0 : Int32))))))))))))))
else (if ((xs (Int32.toNatClampNeg a0.1)) &&& (31 : Int32)) = (8 : Int32) then (tw_ck (tw_ok (a0.1 + (1 : Int32)) Ln) (
tw_ck (tw_ok (a0.1 + (2 : Int32)) Ln) (
tw_bd (tw_P_L_why n (xs (Int32.toNatClampNeg (a0.1 + (1 : Int32)))) (xs (Int32.toNatClampNeg (a0.1 + (2 : Int32)))) a0.2) (fun r61 =>
tw_lt r61.1 (fun (v62 : Int32) =>
tw_ck (tw_ok (a0.1 + (1 : Int32)) Ln) (
tw_ck (tw_ok (a0.1 + (2 : Int32)) Ln) (
tw_bd (tw_P_X12_why n (xs (Int32.toNatClampNeg (a0.1 + (1 : Int32)))) (xs (Int32.toNatClampNeg (a0.1 + (2 : Int32)))) r61.2) (fun r63 =>
tw_lt r63.1 (fun (v64 : Int32) =>
tw_bd (tw_P_X12_thrown r63.2) (fun r65 =>
if r65 = v62 then (tw_jn (fun (a66 : Unit) =>
j2 r63.2) (fun (j67 : (Unit) → Option (Int32)) =>
if ¬ v62 = 0 then (j67 ())
else (tw_ck (tw_ok (0 : Int32) (tw_ln 1036)) (
if (lg_cmp (Int32.toInt64 (r63.2 1036 (Int32.toNatClampNeg (0 : Int32)))) (Int32.toInt64 v64)) = 0 then (j67 ())
else (some (0 : Int32))))))
else (some (0 : Int32))))))))))))
else (if ((xs (Int32.toNatClampNeg a0.1)) &&& (31 : Int32)) = (9 : Int32) then (tw_ck (tw_ok (a0.1 + (1 : Int32)) Ln) (
tw_ck (tw_ok (a0.1 + (2 : Int32)) Ln) (
tw_ck (tw_ok (a0.1 + (3 : Int32)) Ln) (
tw_ck (tw_ok (a0.1 + (4 : Int32)) Ln) (
tw_bd (tw_P_L_walk n (xs (Int32.toNatClampNeg (a0.1 + (1 : Int32)))) (xs (Int32.toNatClampNeg (a0.1 + (2 : Int32)))) (xs (Int32.toNatClampNeg (a0.1 + (3 : Int32)))) (xs (Int32.toNatClampNeg (a0.1 + (4 : Int32)))) a0.2) (fun r69 =>
tw_lt r69.1 (fun (v70 : Int32) =>
tw_ck (tw_ok (a0.1 + (1 : Int32)) Ln) (
tw_ck (tw_ok (a0.1 + (2 : Int32)) Ln) (
tw_ck (tw_ok (a0.1 + (3 : Int32)) Ln) (
tw_ck (tw_ok (a0.1 + (4 : Int32)) Ln) (
tw_bd (tw_P_X12_walk n (xs (Int32.toNatClampNeg (a0.1 + (1 : Int32)))) (xs (Int32.toNatClampNeg (a0.1 + (2 : Int32)))) (xs (Int32.toNatClampNeg (a0.1 + (3 : Int32)))) (xs (Int32.toNatClampNeg (a0.1 + (4 : Int32)))) r69.2) (fun r71 =>
tw_lt r71.1 (fun (v72 : Int32) =>
tw_bd (tw_P_X12_thrown r71.2) (fun r73 =>
if r73 = v70 then (tw_jn (fun (a74 : Unit) =>
j2 r71.2) (fun (j75 : (Unit) → Option (Int32)) =>
if ¬ v70 = 0 then (j75 ())
else (tw_ck (tw_ok (0 : Int32) (tw_ln 1036)) (
if (lg_cmp (Int32.toInt64 (r71.2 1036 (Int32.toNatClampNeg (0 : Int32)))) (Int32.toInt64 v72)) = 0 then (j75 ())
else (some (0 : Int32))))))
else (some (0 : Int32))))))))))))))))
else (if ((xs (Int32.toNatClampNeg a0.1)) &&& (31 : Int32)) = (10 : Int32) then (tw_ck (tw_ok (a0.1 + (1 : Int32)) Ln) (
tw_ck (tw_ok (a0.1 + (2 : Int32)) Ln) (
tw_ck (tw_ok (a0.1 + (3 : Int32)) Ln) (
tw_bd (tw_P_L_starts n (xs (Int32.toNatClampNeg (a0.1 + (1 : Int32)))) (xs (Int32.toNatClampNeg (a0.1 + (2 : Int32)))) (xs (Int32.toNatClampNeg (a0.1 + (3 : Int32)))) a0.2) (fun r77 =>
tw_lt r77.1 (fun (v78 : Int32) =>
tw_ck (tw_ok (a0.1 + (1 : Int32)) Ln) (
tw_ck (tw_ok (a0.1 + (2 : Int32)) Ln) (
tw_ck (tw_ok (a0.1 + (3 : Int32)) Ln) (
tw_bd (tw_P_X12_starts n (xs (Int32.toNatClampNeg (a0.1 + (1 : Int32)))) (xs (Int32.toNatClampNeg (a0.1 + (2 : Int32)))) (xs (Int32.toNatClampNeg (a0.1 + (3 : Int32)))) r77.2) (fun r79 =>
tw_lt r79.1 (fun (v80 : Int32) =>
tw_bd (tw_P_X12_thrown r79.2) (fun r81 =>
if r81 = v78 then (tw_jn (fun (a82 : Unit) =>
j2 r79.2) (fun (j83 : (Unit) → Option (Int32)) =>
if ¬ v78 = 0 then (j83 ())
else (tw_ck (tw_ok (0 : Int32) (tw_ln 1036)) (
if (lg_cmp (Int32.toInt64 (r79.2 1036 (Int32.toNatClampNeg (0 : Int32)))) (Int32.toInt64 v80)) = 0 then (j83 ())
else (some (0 : Int32))))))
else (some (0 : Int32))))))))))))))
else (if ((xs (Int32.toNatClampNeg a0.1)) &&& (31 : Int32)) = (11 : Int32) then (tw_ck (tw_ok (a0.1 + (1 : Int32)) Ln) (
tw_ck (tw_ok (a0.1 + (2 : Int32)) Ln) (
tw_bd (tw_P_L_distance n (xs (Int32.toNatClampNeg (a0.1 + (1 : Int32)))) (xs (Int32.toNatClampNeg (a0.1 + (2 : Int32)))) a0.2) (fun r85 =>
tw_lt r85.1 (fun (v86 : Int32) =>
tw_ck (tw_ok (a0.1 + (1 : Int32)) Ln) (
tw_ck (tw_ok (a0.1 + (2 : Int32)) Ln) (
tw_bd (tw_P_X12_distance n (xs (Int32.toNatClampNeg (a0.1 + (1 : Int32)))) (xs (Int32.toNatClampNeg (a0.1 + (2 : Int32)))) r85.2) (fun r87 =>
tw_lt r87.1 (fun (v88 : Int32) =>
tw_bd (tw_P_X12_thrown r87.2) (fun r89 =>
if r89 = v86 then (tw_jn (fun (a90 : Unit) =>
j2 r87.2) (fun (j91 : (Unit) → Option (Int32)) =>
if ¬ v86 = 0 then (j91 ())
else (tw_ck (tw_ok (0 : Int32) (tw_ln 1036)) (
if (lg_cmp (Int32.toInt64 (r87.2 1036 (Int32.toNatClampNeg (0 : Int32)))) (Int32.toInt64 v88)) = 0 then (j91 ())
else (some (0 : Int32))))))
else (some (0 : Int32))))))))))))
else (if ((xs (Int32.toNatClampNeg a0.1)) &&& (31 : Int32)) = (12 : Int32) then (tw_bd (tw_P_X11_nearest n a0.2) (fun r93 =>
tw_bd (tw_P_X12_nearest n r93.2) (fun r94 =>
if r93.1 = r94.1 then (j2 r94.2)
else (some (0 : Int32)))))
else (if ((xs (Int32.toNatClampNeg a0.1)) &&& (31 : Int32)) = (13 : Int32) then (tw_bd (tw_P_X11_tour n a0.2) (fun r96 =>
tw_bd (tw_P_X12_tour n r96.2) (fun r97 =>
if r96.1 = r97.1 then (j2 r97.2)
else (some (0 : Int32)))))
else (if ((xs (Int32.toNatClampNeg a0.1)) &&& (31 : Int32)) = (14 : Int32) then (tw_ck (tw_ok (a0.1 + (1 : Int32)) Ln) (
tw_ck (tw_ok (a0.1 + (2 : Int32)) Ln) (
tw_bd (tw_P_L_part n (xs (Int32.toNatClampNeg (a0.1 + (1 : Int32)))) (xs (Int32.toNatClampNeg (a0.1 + (2 : Int32)))) a0.2) (fun r99 =>
tw_lt r99.1 (fun (v100 : Int32) =>
tw_ck (tw_ok (a0.1 + (1 : Int32)) Ln) (
tw_ck (tw_ok (a0.1 + (2 : Int32)) Ln) (
tw_bd (tw_P_X12_part n (xs (Int32.toNatClampNeg (a0.1 + (1 : Int32)))) (xs (Int32.toNatClampNeg (a0.1 + (2 : Int32)))) r99.2) (fun r101 =>
tw_lt r101.1 (fun (v102 : Int32) =>
tw_bd (tw_P_X12_thrown r101.2) (fun r103 =>
if r103 = v100 then (tw_jn (fun (a104 : Unit) =>
j2 r101.2) (fun (j105 : (Unit) → Option (Int32)) =>
if ¬ v100 = 0 then (j105 ())
else (tw_ck (tw_ok (0 : Int32) (tw_ln 1036)) (
if (lg_cmp (Int32.toInt64 (r101.2 1036 (Int32.toNatClampNeg (0 : Int32)))) (Int32.toInt64 v102)) = 0 then (j105 ())
else (some (0 : Int32))))))
else (some (0 : Int32))))))))))))
else (if ((xs (Int32.toNatClampNeg a0.1)) &&& (31 : Int32)) = (15 : Int32) then (tw_bd (tw_P_X11_meanDistance n a0.2) (fun r107 =>
tw_lt r107.1 (fun (v108 : UInt64) =>
tw_bd (tw_P_X12_meanDistance n r107.2) (fun r109 =>
tw_lt r109.1 (fun (v110 : UInt64) =>
tw_jn (fun (a111 : Unit) =>
j2 r109.2) (fun (j112 : (Unit) → Option (Int32)) =>
if (Op.cmpValue (FP.dcmp v108 v110) .l) = 0 then (j112 ())
else (tw_jn (fun (a113 : Unit) =>
some (0 : Int32)) (fun (j114 : (Unit) → Option (Int32)) =>
if (Op.cmpValue (FP.dcmp v108 v108) .l) = 0 then (j114 ())
else (if ¬ (Op.cmpValue (FP.dcmp v110 v110) .l) = 0 then (j112 ())
else (j114 ()))))))))))
else (if ((xs (Int32.toNatClampNeg a0.1)) &&& (31 : Int32)) = (16 : Int32) then (tw_bd (tw_P_X11_chestIsLeft n a0.2) (fun r116 =>
tw_bd (tw_P_X12_chestIsLeft n r116.2) (fun r117 =>
if r116.1 = r117.1 then (j2 r117.2)
else (some (0 : Int32)))))
else (if ((xs (Int32.toNatClampNeg a0.1)) &&& (31 : Int32)) = (17 : Int32) then (tw_ck (tw_ok (a0.1 + (1 : Int32)) Ln) (
tw_ck (tw_ok (a0.1 + (2 : Int32)) Ln) (
tw_bd (tw_P_L_moveTo n (xs (Int32.toNatClampNeg (a0.1 + (1 : Int32)))) (xs (Int32.toNatClampNeg (a0.1 + (2 : Int32)))) a0.2) (fun r119 =>
tw_lt r119.1 (fun (v120 : Int32) =>
tw_ck (tw_ok (a0.1 + (1 : Int32)) Ln) (
tw_ck (tw_ok (a0.1 + (2 : Int32)) Ln) (
tw_bd (tw_P_X12_moveTo n (xs (Int32.toNatClampNeg (a0.1 + (1 : Int32)))) (xs (Int32.toNatClampNeg (a0.1 + (2 : Int32)))) r119.2) (fun r121 =>
tw_lt r121.1 (fun (v122 : Int32) =>
tw_bd (tw_P_X12_thrown r121.2) (fun r123 =>
if r123 = v120 then (tw_jn (fun (a124 : Unit) =>
j2 r121.2) (fun (j125 : (Unit) → Option (Int32)) =>
if ¬ v120 = 0 then (j125 ())
else (tw_ck (tw_ok (0 : Int32) (tw_ln 1036)) (
if (lg_cmp (Int32.toInt64 (r121.2 1036 (Int32.toNatClampNeg (0 : Int32)))) (Int32.toInt64 v122)) = 0 then (j125 ())
else (some (0 : Int32))))))
else (some (0 : Int32))))))))))))
else (if ((xs (Int32.toNatClampNeg a0.1)) &&& (31 : Int32)) = (18 : Int32) then (tw_bd (tw_P_X11_dig a0.2) (fun r127 =>
tw_bd (tw_P_X12_dig n r127.2) (fun r128 =>
if r127.1 = r128.1 then (j2 r128.2)
else (some (0 : Int32)))))
else (if ((xs (Int32.toNatClampNeg a0.1)) &&& (31 : Int32)) = (19 : Int32) then (tw_ck (tw_ok (a0.1 + (1 : Int32)) Ln) (
tw_ck (tw_ok (a0.1 + (2 : Int32)) Ln) (
tw_jn (fun (a130 : Int32) =>
tw_bd (tw_P_L_use n (xs (Int32.toNatClampNeg (a0.1 + (1 : Int32)))) a130 a0.2) (fun r132 =>
tw_lt r132.1 (fun (v133 : Int32) =>
tw_ck (tw_ok (a0.1 + (1 : Int32)) Ln) (
tw_ck (tw_ok (a0.1 + (2 : Int32)) Ln) (
tw_jn (fun (a134 : Int32) =>
tw_bd (tw_P_X12_use n (xs (Int32.toNatClampNeg (a0.1 + (1 : Int32)))) a134 r132.2) (fun r136 =>
tw_lt r136.1 (fun (v137 : Int32) =>
tw_bd (tw_P_X12_thrown r136.2) (fun r138 =>
if r138 = v133 then (tw_jn (fun (a139 : Unit) =>
j2 r136.2) (fun (j140 : (Unit) → Option (Int32)) =>
if ¬ v133 = 0 then (j140 ())
else (tw_ck (tw_ok (0 : Int32) (tw_ln 1036)) (
if (lg_cmp (Int32.toInt64 (r136.2 1036 (Int32.toNatClampNeg (0 : Int32)))) (Int32.toInt64 v137)) = 0 then (j140 ())
else (some (0 : Int32))))))
else (some (0 : Int32)))))) (fun (j135 : (Int32) → Option (Int32)) =>
if (xs (Int32.toNatClampNeg (a0.1 + (2 : Int32)))) = 0 then (j135 (0 : Int32))
else (j135 (1 : Int32)))))))) (fun (j131 : (Int32) → Option (Int32)) =>
if (xs (Int32.toNatClampNeg (a0.1 + (2 : Int32)))) = 0 then (j131 (0 : Int32))
else (j131 (1 : Int32))))))
else (if ((xs (Int32.toNatClampNeg a0.1)) &&& (31 : Int32)) = (20 : Int32) then (tw_ck (tw_ok (a0.1 + (1 : Int32)) Ln) (
tw_bd (tw_P_L_hide n (xs (Int32.toNatClampNeg (a0.1 + (1 : Int32)))) a0.2) (fun r142 =>
tw_lt r142.1 (fun (v143 : Int32) =>
tw_ck (tw_ok (a0.1 + (1 : Int32)) Ln) (
tw_bd (tw_P_X12_hide n (xs (Int32.toNatClampNeg (a0.1 + (1 : Int32)))) r142.2) (fun r144 =>
tw_lt r144.1 (fun (v145 : Int32) =>
tw_bd (tw_P_X12_thrown r144.2) (fun r146 =>
if r146 = v143 then (tw_jn (fun (a147 : Unit) =>
j2 r144.2) (fun (j148 : (Unit) → Option (Int32)) =>
if ¬ v143 = 0 then (j148 ())
else (tw_ck (tw_ok (0 : Int32) (tw_ln 1036)) (
if (lg_cmp (Int32.toInt64 (r144.2 1036 (Int32.toNatClampNeg (0 : Int32)))) (Int32.toInt64 v145)) = 0 then (j148 ())
else (some (0 : Int32))))))
else (some (0 : Int32))))))))))
else (if ((xs (Int32.toNatClampNeg a0.1)) &&& (31 : Int32)) = (21 : Int32) then (tw_ck (tw_ok (a0.1 + (1 : Int32)) Ln) (
tw_ck (tw_ok (a0.1 + (2 : Int32)) Ln) (
tw_bd (tw_P_L_turn n (xs (Int32.toNatClampNeg (a0.1 + (1 : Int32)))) (xs (Int32.toNatClampNeg (a0.1 + (2 : Int32)))) a0.2) (fun r150 =>
tw_lt r150.1 (fun (v151 : Int32) =>
tw_ck (tw_ok (a0.1 + (1 : Int32)) Ln) (
tw_ck (tw_ok (a0.1 + (2 : Int32)) Ln) (
tw_bd (tw_P_X12_turn n (xs (Int32.toNatClampNeg (a0.1 + (1 : Int32)))) (xs (Int32.toNatClampNeg (a0.1 + (2 : Int32)))) r150.2) (fun r152 =>
tw_lt r152.1 (fun (v153 : Int32) =>
tw_bd (tw_P_X12_thrown r152.2) (fun r154 =>
if r154 = v151 then (tw_jn (fun (a155 : Unit) =>
j2 r152.2) (fun (j156 : (Unit) → Option (Int32)) =>
if ¬ v151 = 0 then (j156 ())
else (tw_ck (tw_ok (0 : Int32) (tw_ln 1036)) (
if (lg_cmp (Int32.toInt64 (r152.2 1036 (Int32.toNatClampNeg (0 : Int32)))) (Int32.toInt64 v153)) = 0 then (j156 ())
else (some (0 : Int32))))))
else (some (0 : Int32))))))))))))
else (if ((xs (Int32.toNatClampNeg a0.1)) &&& (31 : Int32)) = (22 : Int32) then (tw_bd (tw_P_X11_undo n a0.2) (fun r158 =>
tw_bd (tw_P_X12_undo n r158.2) (fun r159 =>
if r158.1 = r159.1 then (j2 r159.2)
else (some (0 : Int32)))))
else (if ((xs (Int32.toNatClampNeg a0.1)) &&& (31 : Int32)) = (23 : Int32) then (tw_bd (tw_P_X11_checksum n a0.2) (fun r161 =>
tw_bd (tw_P_X12_checksum n r161.2) (fun r162 =>
if (lg_cmp r161.1 r162.1) = 0 then (j2 r162.2)
else (some (0 : Int32)))))
else (j2 a0.2)))))))))))))))))))))))))))
set_option maxRecDepth 100000 in
set_option maxHeartbeats 4000000 in
theorem tw_law {z : tw_Z} {n Ln b : Nat} {xs : Nat → Int32} (X : tw_X z cL_law "TreasureWalkLaw" 9) (hst : (tw_zl z).stackTraces = false) (hfr : (tw_zR z).frames = 14) (hlo : (tw_zR z).locals = 574) (hcs : tw_zcells z ≤ (tw_zR z).cells ∧ tw_zslots z ≤ (tw_zR z).slots) (hc1 : tw_zcells z + 1 ≤ (tw_zR z).cells ∧ tw_zslots z + 6 ≤ (tw_zR z).slots) (hX : va_X b Ln xs (tw_zs z) (tw_zs z).heap) (hbl : b < (tw_zs z).heap.size) (hbB : b < tw_zB z) (hend : ∀ σ L, tw_Rf z (1 : Int32) (some (1 : Int32)) σ 1432 L [.int 1]) (kk : Int32 × tw_Sg → Option Int32) (hk : ∀ a0 : Int32 × tw_Sg, tw_Rf (tw_c1 z) (1 : Int32) (kk a0) a0.2 23 [(4, .int a0.1), (3, .ref (tw_zB z + 1036)), (2, .ref (tw_zB z + 442)), (1, .ref (tw_zB z + 0)), (0, .ref b)] []) (a0 : Int32 × tw_Sg) : tw_Rf z (1 : Int32) (tw_lawB n Ln xs kk a0) a0.2 23 [(4, .int a0.1), (3, .ref (tw_zB z + 1036)), (2, .ref (tw_zB z + 442)), (1, .ref (tw_zB z + 0)), (0, .ref b)] [] := by
  unfold tw_lawB
  refine r_iload X dL_law_23 0 rfl ?_
  refine r_aload_n X dL_law_25 rfl 4 rfl ?_
  refine r_slen' X hX hbl hbB dL_law_26 ?_
  refine r_bipush X dL_law_27 (v := (6 : Int32)) (by decide) ?_
  refine r_isub X dL_law_29 ?_
  refine r_icmp_gt X dL_law_30 (tgt := 1431) (by decide) ?_ ?_
  ·
    refine r_iconst X dL_law_1431 (v := (1 : Int32)) (by decide) ?_
    exact hend _ _
  ·
    refine r_aload_n X dL_law_33 rfl 4 rfl ?_
    refine r_iload X dL_law_34 0 rfl ?_
    refine r_sld X hX hbl hbB dL_law_36 ?_
    refine r_bipush X dL_law_37 (v := (31 : Int32)) (by decide) ?_
    refine r_iand X dL_law_39 ?_
    refine r_jnC (α := tw_Sg) (σJ := fun a1 => a1) (pcJ := 1425) (LJ := fun a1 => [(4, .int a0.1), (3, .ref (tw_zB z + 1036)), (2, .ref (tw_zB z + 442)), (1, .ref (tw_zB z + 0)), (0, .ref b)]) (stJ := fun a1 => []) (ok := fun a1 => True) (fun a1 hoka1 => ?_) (fun j2 hj2 => ?_)
    ·
      refine r_iinc X.c1 dL_law_1425 0 rfl (v := (6 : Int32)) (by decide) (by decide) (LL := fun v3 => [(4, .int v3), (3, .ref (tw_zB z + 1036)), (2, .ref (tw_zB z + 442)), (1, .ref (tw_zB z + 0)), (0, .ref b)]) (fun _ => rfl) (fun v3 => ?_)
      refine r_goto X.c1 dL_law_1428 (tgt := 23) (by decide) ?_
      exact hk (v3, a1)
    refine r_ite (fun h4 => ?_) (fun h4 => ?_)
    ·
      refine r_tsw X dL_law_40 h4 (by decide) (by decide) rfl (tgt := 152) (by decide) ?_
      refine r_aload_n X dL_law_152 rfl 3 rfl ?_
      refine r_aload_n X dL_law_153 rfl 4 rfl ?_
      refine r_iload X dL_law_154 0 rfl ?_
      refine r_iconst X dL_law_156 (v := (1 : Int32)) (by decide) ?_
      refine r_iadd X dL_law_157 ?_
      refine r_sld X hX hbl hbB dL_law_158 ?_
      refine r_aload_n X dL_law_159 rfl 4 rfl ?_
      refine r_iload X dL_law_160 0 rfl ?_
      refine r_iconst X dL_law_162 (v := (2 : Int32)) (by decide) ?_
      refine r_iadd X dL_law_163 ?_
      refine r_sld X hX hbl hbB dL_law_164 ?_
      refine r_aload_n X dL_law_165 rfl 4 rfl ?_
      refine r_iload X dL_law_166 0 rfl ?_
      refine r_iconst X dL_law_168 (v := (3 : Int32)) (by decide) ?_
      refine r_iadd X dL_law_169 ?_
      refine r_sld X hX hbl hbB dL_law_170 ?_
      refine r_aload_n X dL_law_171 rfl 4 rfl ?_
      refine r_iload X dL_law_172 0 rfl ?_
      refine r_iconst X dL_law_174 (v := (4 : Int32)) (by decide) ?_
      refine r_iadd X dL_law_175 ?_
      refine r_sld X hX hbl hbB dL_law_176 ?_
      refine r_aload_n X dL_law_177 rfl 4 rfl ?_
      refine r_iload X dL_law_178 0 rfl ?_
      refine r_iconst X dL_law_180 (v := (5 : Int32)) (by decide) ?_
      refine r_iadd X dL_law_181 ?_
      refine r_sld X hX hbl hbB dL_law_182 ?_
      refine r_bd (fun r5 hr5 => ?_)
      refine tw_c_X11_append X dL_law_183 _ tw_w501  hr5 (tw_le hfr rfl) (tw_le hlo rfl) hcs (Nat.le_of_ble_eq_true rfl) trivial ?_
      refine r_aload_n X dL_law_186 rfl 2 rfl ?_
      refine r_aload_n X dL_law_187 rfl 4 rfl ?_
      refine r_iload X dL_law_188 0 rfl ?_
      refine r_iconst X dL_law_190 (v := (1 : Int32)) (by decide) ?_
      refine r_iadd X dL_law_191 ?_
      refine r_sld X hX hbl hbB dL_law_192 ?_
      refine r_aload_n X dL_law_193 rfl 4 rfl ?_
      refine r_iload X dL_law_194 0 rfl ?_
      refine r_iconst X dL_law_196 (v := (2 : Int32)) (by decide) ?_
      refine r_iadd X dL_law_197 ?_
      refine r_sld X hX hbl hbB dL_law_198 ?_
      refine r_aload_n X dL_law_199 rfl 4 rfl ?_
      refine r_iload X dL_law_200 0 rfl ?_
      refine r_iconst X dL_law_202 (v := (3 : Int32)) (by decide) ?_
      refine r_iadd X dL_law_203 ?_
      refine r_sld X hX hbl hbB dL_law_204 ?_
      refine r_aload_n X dL_law_205 rfl 4 rfl ?_
      refine r_iload X dL_law_206 0 rfl ?_
      refine r_iconst X dL_law_208 (v := (4 : Int32)) (by decide) ?_
      refine r_iadd X dL_law_209 ?_
      refine r_sld X hX hbl hbB dL_law_210 ?_
      refine r_aload_n X dL_law_211 rfl 4 rfl ?_
      refine r_iload X dL_law_212 0 rfl ?_
      refine r_iconst X dL_law_214 (v := (5 : Int32)) (by decide) ?_
      refine r_iadd X dL_law_215 ?_
      refine r_sld X hX hbl hbB dL_law_216 ?_
      refine r_bd (fun r6 hr6 => ?_)
      refine tw_c_X12_append X dL_law_217 _ tw_w1351  hr6 (tw_le hfr rfl) (tw_le hlo rfl) hcs (Nat.le_of_ble_eq_true rfl) trivial ?_
      refine r_icmp_eq X dL_law_220 (tgt := 1425) (by decide) ?_ ?_
      ·
        refine r_wid ?_
        exact hj2 r6.2 trivial
      ·
        refine r_iconst X dL_law_223 (v := (0 : Int32)) (by decide) ?_
        exact fun hE => absurd (Option.some.inj hE) (by decide)
    refine r_ite (fun h7 => ?_) (fun h7 => ?_)
    ·
      refine r_tsw X dL_law_40 h7 (by decide) (by decide) rfl (tgt := 225) (by decide) ?_
      refine r_aload_n X dL_law_225 rfl 3 rfl ?_
      refine r_aload_n X dL_law_226 rfl 4 rfl ?_
      refine r_iload X dL_law_227 0 rfl ?_
      refine r_iconst X dL_law_229 (v := (1 : Int32)) (by decide) ?_
      refine r_iadd X dL_law_230 ?_
      refine r_sld X hX hbl hbB dL_law_231 ?_
      refine r_aload_n X dL_law_232 rfl 1 rfl ?_
      refine r_bd (fun r8 hr8 => ?_)
      refine r_callSW (As := [.ref (tw_zB z + 0), .int (xs (Int32.toNatClampNeg (a0.1 + (1 : Int32)))), .ref (tw_zB z + 1036)]) (st := []) X dL_law_233 (tw_m_L_load hst hr8) tw_y_L_load _ tw_z883 rfl ⟨rfl, rfl, tw_le hfr rfl, tw_le hlo rfl⟩ hc1 (Nat.le_of_ble_eq_true rfl) rfl ?_
      refine r_istore X.c1 dL_law_236 (by decide) (LL := fun v9 => [(5, .int v9), (4, .int a0.1), (3, .ref (tw_zB z + 1036)), (2, .ref (tw_zB z + 442)), (1, .ref (tw_zB z + 0)), (0, .ref b)]) (fun _ => rfl) (fun v9 => ?_)
      refine r_aload_n X.c1 dL_law_238 rfl 3 rfl ?_
      refine r_aload_n X.c1 dL_law_239 rfl 5 rfl ?_
      refine r_iload X.c1 dL_law_240 1 rfl ?_
      refine r_iconst X.c1 dL_law_242 (v := (1 : Int32)) (by decide) ?_
      refine r_iadd X.c1 dL_law_243 ?_
      refine r_sld X hX hbl hbB dL_law_244 ?_
      refine r_bd (fun r10 hr10 => ?_)
      refine tw_c_X12_load X.c1 dL_law_245 _ tw_w1355  hr10 (tw_le hfr rfl) (tw_le hlo rfl) hc1 (Nat.le_of_ble_eq_true rfl) trivial ?_
      refine r_istore X.c1 dL_law_248 (by decide) (LL := fun v11 => [(6, .int v11), (5, .int v9), (4, .int a0.1), (3, .ref (tw_zB z + 1036)), (2, .ref (tw_zB z + 442)), (1, .ref (tw_zB z + 0)), (0, .ref b)]) (fun _ => rfl) (fun v11 => ?_)
      refine r_aload_n X.c1 dL_law_250 rfl 4 rfl ?_
      refine r_bd (fun r12 hr12 => ?_)
      refine tw_c_X12_thrown X.c1 dL_law_251 _ tw_w1347  hr12 (tw_le hfr rfl) (tw_le hlo rfl) hc1 (Nat.le_of_ble_eq_true rfl) trivial ?_
      refine r_iload X.c1 dL_law_254 1 rfl ?_
      refine r_icmp_eq X.c1 dL_law_256 (tgt := 261) (by decide) ?_ ?_
      ·
        refine r_iload X.c1 dL_law_261 1 rfl ?_
        refine r_jn (α := Unit) (σJ := fun a13 => r10.2) (pcJ := 278) (LJ := fun a13 => [(4, .int a0.1), (3, .ref (tw_zB z + 1036)), (2, .ref (tw_zB z + 442)), (1, .ref (tw_zB z + 0)), (0, .ref b)]) (stJ := fun a13 => []) (ok := fun a13 => True) (fun a13 hoka13 => ?_) (fun j14 hj14 => ?_)
        ·
          refine r_goto X.c1 dL_law_278 (tgt := 1425) (by decide) ?_
          exact hj2 r10.2 trivial
        refine r_if_ne X.c1 dL_law_263 (tgt := 278) (by decide) ?_ ?_
        ·
          exact tw_Rf.sub [2, 3, 4, 5, 6] rfl (hj14 () trivial)
        ·
          refine r_aload_n X.c1 dL_law_266 rfl 3 rfl ?_
          refine r_iconst X.c1 dL_law_267 (v := (0 : Int32)) (by decide) ?_
          refine r_lald (k := 1036) X.c1 dL_law_268 tw_kc1036 ?_
          refine r_iload X.c1 dL_law_269 0 rfl ?_
          refine r_i2l X.c1 dL_law_271 ?_
          refine r_lcmp X.c1 dL_law_272 ?_
          refine r_if_eq X.c1 dL_law_273 (tgt := 278) (by decide) ?_ ?_
          ·
            exact tw_Rf.sub [2, 3, 4, 5, 6] rfl (hj14 () trivial)
          ·
            refine r_iconst X.c1 dL_law_276 (v := (0 : Int32)) (by decide) ?_
            exact fun hE => absurd (Option.some.inj hE) (by decide)
      ·
        refine r_iconst X.c1 dL_law_259 (v := (0 : Int32)) (by decide) ?_
        exact fun hE => absurd (Option.some.inj hE) (by decide)
    refine r_ite (fun h15 => ?_) (fun h15 => ?_)
    ·
      refine r_tsw X dL_law_40 h15 (by decide) (by decide) rfl (tgt := 281) (by decide) ?_
      refine r_aload_n X dL_law_281 rfl 3 rfl ?_
      refine r_bd (fun r16 hr16 => ?_)
      refine tw_c_X11_errorOffset X dL_law_282 _ tw_w513  hr16 (tw_le hfr rfl) (tw_le hlo rfl) hcs (Nat.le_of_ble_eq_true rfl) trivial ?_
      refine r_aload_n X dL_law_285 rfl 2 rfl ?_
      refine r_bd (fun r17 hr17 => ?_)
      refine tw_c_X12_errorOffset X dL_law_286 _ tw_w1499  hr17 (tw_le hfr rfl) (tw_le hlo rfl) hcs (Nat.le_of_ble_eq_true rfl) trivial ?_
      refine r_icmp_eq X dL_law_289 (tgt := 1425) (by decide) ?_ ?_
      ·
        refine r_wid ?_
        exact hj2 r17.2 trivial
      ·
        refine r_iconst X dL_law_292 (v := (0 : Int32)) (by decide) ?_
        exact fun hE => absurd (Option.some.inj hE) (by decide)
    refine r_ite (fun h18 => ?_) (fun h18 => ?_)
    ·
      refine r_tsw X dL_law_40 h18 (by decide) (by decide) rfl (tgt := 294) (by decide) ?_
      refine r_aload_n X dL_law_294 rfl 3 rfl ?_
      refine r_aload_n X dL_law_295 rfl 4 rfl ?_
      refine r_iload X dL_law_296 0 rfl ?_
      refine r_iconst X dL_law_298 (v := (1 : Int32)) (by decide) ?_
      refine r_iadd X dL_law_299 ?_
      refine r_sld X hX hbl hbB dL_law_300 ?_
      refine r_aload_n X dL_law_301 rfl 1 rfl ?_
      refine r_bd (fun r19 hr19 => ?_)
      refine r_callSW (As := [.ref (tw_zB z + 0), .int (xs (Int32.toNatClampNeg (a0.1 + (1 : Int32)))), .ref (tw_zB z + 1036)]) (st := []) X dL_law_302 (tw_m_L_state hst hr19) tw_y_L_state _ tw_z1088 rfl ⟨rfl, rfl, tw_le hfr rfl, tw_le hlo rfl⟩ hc1 (Nat.le_of_ble_eq_true rfl) rfl ?_
      refine r_istore X.c1 dL_law_305 (by decide) (LL := fun v20 => [(5, .int v20), (4, .int a0.1), (3, .ref (tw_zB z + 1036)), (2, .ref (tw_zB z + 442)), (1, .ref (tw_zB z + 0)), (0, .ref b)]) (fun _ => rfl) (fun v20 => ?_)
      refine r_aload_n X.c1 dL_law_307 rfl 3 rfl ?_
      refine r_aload_n X.c1 dL_law_308 rfl 5 rfl ?_
      refine r_iload X.c1 dL_law_309 1 rfl ?_
      refine r_iconst X.c1 dL_law_311 (v := (1 : Int32)) (by decide) ?_
      refine r_iadd X.c1 dL_law_312 ?_
      refine r_sld X hX hbl hbB dL_law_313 ?_
      refine r_bd (fun r21 hr21 => ?_)
      refine tw_c_X12_state X.c1 dL_law_314 _ tw_w1503  hr21 (tw_le hfr rfl) (tw_le hlo rfl) hc1 (Nat.le_of_ble_eq_true rfl) trivial ?_
      refine r_istore X.c1 dL_law_317 (by decide) (LL := fun v22 => [(6, .int v22), (5, .int v20), (4, .int a0.1), (3, .ref (tw_zB z + 1036)), (2, .ref (tw_zB z + 442)), (1, .ref (tw_zB z + 0)), (0, .ref b)]) (fun _ => rfl) (fun v22 => ?_)
      refine r_aload_n X.c1 dL_law_319 rfl 4 rfl ?_
      refine r_bd (fun r23 hr23 => ?_)
      refine tw_c_X12_thrown X.c1 dL_law_320 _ tw_w1347  hr23 (tw_le hfr rfl) (tw_le hlo rfl) hc1 (Nat.le_of_ble_eq_true rfl) trivial ?_
      refine r_iload X.c1 dL_law_323 1 rfl ?_
      refine r_icmp_eq X.c1 dL_law_325 (tgt := 330) (by decide) ?_ ?_
      ·
        refine r_iload X.c1 dL_law_330 1 rfl ?_
        refine r_jn (α := Unit) (σJ := fun a24 => r21.2) (pcJ := 347) (LJ := fun a24 => [(4, .int a0.1), (3, .ref (tw_zB z + 1036)), (2, .ref (tw_zB z + 442)), (1, .ref (tw_zB z + 0)), (0, .ref b)]) (stJ := fun a24 => []) (ok := fun a24 => True) (fun a24 hoka24 => ?_) (fun j25 hj25 => ?_)
        ·
          refine r_goto X.c1 dL_law_347 (tgt := 1425) (by decide) ?_
          exact hj2 r21.2 trivial
        refine r_if_ne X.c1 dL_law_332 (tgt := 347) (by decide) ?_ ?_
        ·
          exact tw_Rf.sub [2, 3, 4, 5, 6] rfl (hj25 () trivial)
        ·
          refine r_aload_n X.c1 dL_law_335 rfl 3 rfl ?_
          refine r_iconst X.c1 dL_law_336 (v := (0 : Int32)) (by decide) ?_
          refine r_lald (k := 1036) X.c1 dL_law_337 tw_kc1036 ?_
          refine r_iload X.c1 dL_law_338 0 rfl ?_
          refine r_i2l X.c1 dL_law_340 ?_
          refine r_lcmp X.c1 dL_law_341 ?_
          refine r_if_eq X.c1 dL_law_342 (tgt := 347) (by decide) ?_ ?_
          ·
            exact tw_Rf.sub [2, 3, 4, 5, 6] rfl (hj25 () trivial)
          ·
            refine r_iconst X.c1 dL_law_345 (v := (0 : Int32)) (by decide) ?_
            exact fun hE => absurd (Option.some.inj hE) (by decide)
      ·
        refine r_iconst X.c1 dL_law_328 (v := (0 : Int32)) (by decide) ?_
        exact fun hE => absurd (Option.some.inj hE) (by decide)
    refine r_ite (fun h26 => ?_) (fun h26 => ?_)
    ·
      refine r_tsw X dL_law_40 h26 (by decide) (by decide) rfl (tgt := 350) (by decide) ?_
      refine r_aload_n X dL_law_350 rfl 3 rfl ?_
      refine r_aload_n X dL_law_351 rfl 4 rfl ?_
      refine r_iload X dL_law_352 0 rfl ?_
      refine r_iconst X dL_law_354 (v := (1 : Int32)) (by decide) ?_
      refine r_iadd X dL_law_355 ?_
      refine r_sld X hX hbl hbB dL_law_356 ?_
      refine r_aload_n X dL_law_357 rfl 4 rfl ?_
      refine r_iload X dL_law_358 0 rfl ?_
      refine r_iconst X dL_law_360 (v := (2 : Int32)) (by decide) ?_
      refine r_iadd X dL_law_361 ?_
      refine r_sld X hX hbl hbB dL_law_362 ?_
      refine r_aload_n X dL_law_363 rfl 1 rfl ?_
      refine r_bd (fun r27 hr27 => ?_)
      refine r_callSW (As := [.ref (tw_zB z + 0), .int (xs (Int32.toNatClampNeg (a0.1 + (1 : Int32)))), .int (xs (Int32.toNatClampNeg (a0.1 + (2 : Int32)))), .ref (tw_zB z + 1036)]) (st := []) X dL_law_364 (tw_m_L_cell hst hr27) tw_y_L_cell _ tw_z1092 rfl ⟨rfl, rfl, tw_le hfr rfl, tw_le hlo rfl⟩ hc1 (Nat.le_of_ble_eq_true rfl) rfl ?_
      refine r_istore X.c1 dL_law_367 (by decide) (LL := fun v28 => [(5, .int v28), (4, .int a0.1), (3, .ref (tw_zB z + 1036)), (2, .ref (tw_zB z + 442)), (1, .ref (tw_zB z + 0)), (0, .ref b)]) (fun _ => rfl) (fun v28 => ?_)
      refine r_aload_n X.c1 dL_law_369 rfl 3 rfl ?_
      refine r_aload_n X.c1 dL_law_370 rfl 5 rfl ?_
      refine r_iload X.c1 dL_law_371 1 rfl ?_
      refine r_iconst X.c1 dL_law_373 (v := (1 : Int32)) (by decide) ?_
      refine r_iadd X.c1 dL_law_374 ?_
      refine r_sld X hX hbl hbB dL_law_375 ?_
      refine r_aload_n X.c1 dL_law_376 rfl 5 rfl ?_
      refine r_iload X.c1 dL_law_377 1 rfl ?_
      refine r_iconst X.c1 dL_law_379 (v := (2 : Int32)) (by decide) ?_
      refine r_iadd X.c1 dL_law_380 ?_
      refine r_sld X hX hbl hbB dL_law_381 ?_
      refine r_bd (fun r29 hr29 => ?_)
      refine tw_c_X12_cell X.c1 dL_law_382 _ tw_w1592  hr29 (tw_le hfr rfl) (tw_le hlo rfl) hc1 (Nat.le_of_ble_eq_true rfl) trivial ?_
      refine r_istore X.c1 dL_law_385 (by decide) (LL := fun v30 => [(6, .int v30), (5, .int v28), (4, .int a0.1), (3, .ref (tw_zB z + 1036)), (2, .ref (tw_zB z + 442)), (1, .ref (tw_zB z + 0)), (0, .ref b)]) (fun _ => rfl) (fun v30 => ?_)
      refine r_aload_n X.c1 dL_law_387 rfl 4 rfl ?_
      refine r_bd (fun r31 hr31 => ?_)
      refine tw_c_X12_thrown X.c1 dL_law_388 _ tw_w1347  hr31 (tw_le hfr rfl) (tw_le hlo rfl) hc1 (Nat.le_of_ble_eq_true rfl) trivial ?_
      refine r_iload X.c1 dL_law_391 1 rfl ?_
      refine r_icmp_eq X.c1 dL_law_393 (tgt := 398) (by decide) ?_ ?_
      ·
        refine r_iload X.c1 dL_law_398 1 rfl ?_
        refine r_jn (α := Unit) (σJ := fun a32 => r29.2) (pcJ := 415) (LJ := fun a32 => [(4, .int a0.1), (3, .ref (tw_zB z + 1036)), (2, .ref (tw_zB z + 442)), (1, .ref (tw_zB z + 0)), (0, .ref b)]) (stJ := fun a32 => []) (ok := fun a32 => True) (fun a32 hoka32 => ?_) (fun j33 hj33 => ?_)
        ·
          refine r_goto X.c1 dL_law_415 (tgt := 1425) (by decide) ?_
          exact hj2 r29.2 trivial
        refine r_if_ne X.c1 dL_law_400 (tgt := 415) (by decide) ?_ ?_
        ·
          exact tw_Rf.sub [2, 3, 4, 5, 6] rfl (hj33 () trivial)
        ·
          refine r_aload_n X.c1 dL_law_403 rfl 3 rfl ?_
          refine r_iconst X.c1 dL_law_404 (v := (0 : Int32)) (by decide) ?_
          refine r_lald (k := 1036) X.c1 dL_law_405 tw_kc1036 ?_
          refine r_iload X.c1 dL_law_406 0 rfl ?_
          refine r_i2l X.c1 dL_law_408 ?_
          refine r_lcmp X.c1 dL_law_409 ?_
          refine r_if_eq X.c1 dL_law_410 (tgt := 415) (by decide) ?_ ?_
          ·
            exact tw_Rf.sub [2, 3, 4, 5, 6] rfl (hj33 () trivial)
          ·
            refine r_iconst X.c1 dL_law_413 (v := (0 : Int32)) (by decide) ?_
            exact fun hE => absurd (Option.some.inj hE) (by decide)
      ·
        refine r_iconst X.c1 dL_law_396 (v := (0 : Int32)) (by decide) ?_
        exact fun hE => absurd (Option.some.inj hE) (by decide)
    refine r_ite (fun h34 => ?_) (fun h34 => ?_)
    ·
      refine r_tsw X dL_law_40 h34 (by decide) (by decide) rfl (tgt := 418) (by decide) ?_
      refine r_aload_n X dL_law_418 rfl 3 rfl ?_
      refine r_aload_n X dL_law_419 rfl 4 rfl ?_
      refine r_iload X dL_law_420 0 rfl ?_
      refine r_iconst X dL_law_422 (v := (1 : Int32)) (by decide) ?_
      refine r_iadd X dL_law_423 ?_
      refine r_sld X hX hbl hbB dL_law_424 ?_
      refine r_aload_n X dL_law_425 rfl 4 rfl ?_
      refine r_iload X dL_law_426 0 rfl ?_
      refine r_iconst X dL_law_428 (v := (2 : Int32)) (by decide) ?_
      refine r_iadd X dL_law_429 ?_
      refine r_sld X hX hbl hbB dL_law_430 ?_
      refine r_aload_n X dL_law_431 rfl 4 rfl ?_
      refine r_iload X dL_law_432 0 rfl ?_
      refine r_iconst X dL_law_434 (v := (3 : Int32)) (by decide) ?_
      refine r_iadd X dL_law_435 ?_
      refine r_sld X hX hbl hbB dL_law_436 ?_
      refine r_aload_n X dL_law_437 rfl 1 rfl ?_
      refine r_bd (fun r35 hr35 => ?_)
      refine r_callSW (As := [.ref (tw_zB z + 0), .int (xs (Int32.toNatClampNeg (a0.1 + (1 : Int32)))), .int (xs (Int32.toNatClampNeg (a0.1 + (2 : Int32)))), .int (xs (Int32.toNatClampNeg (a0.1 + (3 : Int32)))), .ref (tw_zB z + 1036)]) (st := []) X dL_law_438 (tw_m_L_pace hst hr35) tw_y_L_pace _ tw_z1097 rfl ⟨rfl, rfl, tw_le hfr rfl, tw_le hlo rfl⟩ hc1 (Nat.le_of_ble_eq_true rfl) rfl ?_
      refine r_istore X.c1 dL_law_441 (by decide) (LL := fun v36 => [(5, .int v36), (4, .int a0.1), (3, .ref (tw_zB z + 1036)), (2, .ref (tw_zB z + 442)), (1, .ref (tw_zB z + 0)), (0, .ref b)]) (fun _ => rfl) (fun v36 => ?_)
      refine r_aload_n X.c1 dL_law_443 rfl 3 rfl ?_
      refine r_aload_n X.c1 dL_law_444 rfl 5 rfl ?_
      refine r_iload X.c1 dL_law_445 1 rfl ?_
      refine r_iconst X.c1 dL_law_447 (v := (1 : Int32)) (by decide) ?_
      refine r_iadd X.c1 dL_law_448 ?_
      refine r_sld X hX hbl hbB dL_law_449 ?_
      refine r_aload_n X.c1 dL_law_450 rfl 5 rfl ?_
      refine r_iload X.c1 dL_law_451 1 rfl ?_
      refine r_iconst X.c1 dL_law_453 (v := (2 : Int32)) (by decide) ?_
      refine r_iadd X.c1 dL_law_454 ?_
      refine r_sld X hX hbl hbB dL_law_455 ?_
      refine r_aload_n X.c1 dL_law_456 rfl 5 rfl ?_
      refine r_iload X.c1 dL_law_457 1 rfl ?_
      refine r_iconst X.c1 dL_law_459 (v := (3 : Int32)) (by decide) ?_
      refine r_iadd X.c1 dL_law_460 ?_
      refine r_sld X hX hbl hbB dL_law_461 ?_
      refine r_bd (fun r37 hr37 => ?_)
      refine tw_c_X12_pace X.c1 dL_law_462 _ tw_w1604  hr37 (tw_le hfr rfl) (tw_le hlo rfl) hc1 (Nat.le_of_ble_eq_true rfl) trivial ?_
      refine r_istore X.c1 dL_law_465 (by decide) (LL := fun v38 => [(6, .int v38), (5, .int v36), (4, .int a0.1), (3, .ref (tw_zB z + 1036)), (2, .ref (tw_zB z + 442)), (1, .ref (tw_zB z + 0)), (0, .ref b)]) (fun _ => rfl) (fun v38 => ?_)
      refine r_aload_n X.c1 dL_law_467 rfl 4 rfl ?_
      refine r_bd (fun r39 hr39 => ?_)
      refine tw_c_X12_thrown X.c1 dL_law_468 _ tw_w1347  hr39 (tw_le hfr rfl) (tw_le hlo rfl) hc1 (Nat.le_of_ble_eq_true rfl) trivial ?_
      refine r_iload X.c1 dL_law_471 1 rfl ?_
      refine r_icmp_eq X.c1 dL_law_473 (tgt := 478) (by decide) ?_ ?_
      ·
        refine r_iload X.c1 dL_law_478 1 rfl ?_
        refine r_jn (α := Unit) (σJ := fun a40 => r37.2) (pcJ := 495) (LJ := fun a40 => [(4, .int a0.1), (3, .ref (tw_zB z + 1036)), (2, .ref (tw_zB z + 442)), (1, .ref (tw_zB z + 0)), (0, .ref b)]) (stJ := fun a40 => []) (ok := fun a40 => True) (fun a40 hoka40 => ?_) (fun j41 hj41 => ?_)
        ·
          refine r_goto X.c1 dL_law_495 (tgt := 1425) (by decide) ?_
          exact hj2 r37.2 trivial
        refine r_if_ne X.c1 dL_law_480 (tgt := 495) (by decide) ?_ ?_
        ·
          exact tw_Rf.sub [2, 3, 4, 5, 6] rfl (hj41 () trivial)
        ·
          refine r_aload_n X.c1 dL_law_483 rfl 3 rfl ?_
          refine r_iconst X.c1 dL_law_484 (v := (0 : Int32)) (by decide) ?_
          refine r_lald (k := 1036) X.c1 dL_law_485 tw_kc1036 ?_
          refine r_iload X.c1 dL_law_486 0 rfl ?_
          refine r_i2l X.c1 dL_law_488 ?_
          refine r_lcmp X.c1 dL_law_489 ?_
          refine r_if_eq X.c1 dL_law_490 (tgt := 495) (by decide) ?_ ?_
          ·
            exact tw_Rf.sub [2, 3, 4, 5, 6] rfl (hj41 () trivial)
          ·
            refine r_iconst X.c1 dL_law_493 (v := (0 : Int32)) (by decide) ?_
            exact fun hE => absurd (Option.some.inj hE) (by decide)
      ·
        refine r_iconst X.c1 dL_law_476 (v := (0 : Int32)) (by decide) ?_
        exact fun hE => absurd (Option.some.inj hE) (by decide)
    refine r_ite (fun h42 => ?_) (fun h42 => ?_)
    ·
      refine r_tsw X dL_law_40 h42 (by decide) (by decide) rfl (tgt := 498) (by decide) ?_
      refine r_aload_n X dL_law_498 rfl 3 rfl ?_
      refine r_aload_n X dL_law_499 rfl 4 rfl ?_
      refine r_iload X dL_law_500 0 rfl ?_
      refine r_iconst X dL_law_502 (v := (1 : Int32)) (by decide) ?_
      refine r_iadd X dL_law_503 ?_
      refine r_sld X hX hbl hbB dL_law_504 ?_
      refine r_aload_n X dL_law_505 rfl 4 rfl ?_
      refine r_iload X dL_law_506 0 rfl ?_
      refine r_iconst X dL_law_508 (v := (2 : Int32)) (by decide) ?_
      refine r_iadd X dL_law_509 ?_
      refine r_sld X hX hbl hbB dL_law_510 ?_
      refine r_aload_n X dL_law_511 rfl 1 rfl ?_
      refine r_bd (fun r43 hr43 => ?_)
      refine r_callSW (As := [.ref (tw_zB z + 0), .int (xs (Int32.toNatClampNeg (a0.1 + (1 : Int32)))), .int (xs (Int32.toNatClampNeg (a0.1 + (2 : Int32)))), .ref (tw_zB z + 1036)]) (st := []) X dL_law_512 (tw_m_L_reached hst hr43) tw_y_L_reached _ tw_z1106 rfl ⟨rfl, rfl, tw_le hfr rfl, tw_le hlo rfl⟩ hc1 (Nat.le_of_ble_eq_true rfl) rfl ?_
      refine r_istore X.c1 dL_law_515 (by decide) (LL := fun v44 => [(5, .int v44), (4, .int a0.1), (3, .ref (tw_zB z + 1036)), (2, .ref (tw_zB z + 442)), (1, .ref (tw_zB z + 0)), (0, .ref b)]) (fun _ => rfl) (fun v44 => ?_)
      refine r_aload_n X.c1 dL_law_517 rfl 3 rfl ?_
      refine r_aload_n X.c1 dL_law_518 rfl 5 rfl ?_
      refine r_iload X.c1 dL_law_519 1 rfl ?_
      refine r_iconst X.c1 dL_law_521 (v := (1 : Int32)) (by decide) ?_
      refine r_iadd X.c1 dL_law_522 ?_
      refine r_sld X hX hbl hbB dL_law_523 ?_
      refine r_aload_n X.c1 dL_law_524 rfl 5 rfl ?_
      refine r_iload X.c1 dL_law_525 1 rfl ?_
      refine r_iconst X.c1 dL_law_527 (v := (2 : Int32)) (by decide) ?_
      refine r_iadd X.c1 dL_law_528 ?_
      refine r_sld X hX hbl hbB dL_law_529 ?_
      refine r_bd (fun r45 hr45 => ?_)
      refine tw_c_X12_reached X.c1 dL_law_530 _ tw_w1608  hr45 (tw_le hfr rfl) (tw_le hlo rfl) hc1 (Nat.le_of_ble_eq_true rfl) trivial ?_
      refine r_istore X.c1 dL_law_533 (by decide) (LL := fun v46 => [(6, .int v46), (5, .int v44), (4, .int a0.1), (3, .ref (tw_zB z + 1036)), (2, .ref (tw_zB z + 442)), (1, .ref (tw_zB z + 0)), (0, .ref b)]) (fun _ => rfl) (fun v46 => ?_)
      refine r_aload_n X.c1 dL_law_535 rfl 4 rfl ?_
      refine r_bd (fun r47 hr47 => ?_)
      refine tw_c_X12_thrown X.c1 dL_law_536 _ tw_w1347  hr47 (tw_le hfr rfl) (tw_le hlo rfl) hc1 (Nat.le_of_ble_eq_true rfl) trivial ?_
      refine r_iload X.c1 dL_law_539 1 rfl ?_
      refine r_icmp_eq X.c1 dL_law_541 (tgt := 546) (by decide) ?_ ?_
      ·
        refine r_iload X.c1 dL_law_546 1 rfl ?_
        refine r_jn (α := Unit) (σJ := fun a48 => r45.2) (pcJ := 563) (LJ := fun a48 => [(4, .int a0.1), (3, .ref (tw_zB z + 1036)), (2, .ref (tw_zB z + 442)), (1, .ref (tw_zB z + 0)), (0, .ref b)]) (stJ := fun a48 => []) (ok := fun a48 => True) (fun a48 hoka48 => ?_) (fun j49 hj49 => ?_)
        ·
          refine r_goto X.c1 dL_law_563 (tgt := 1425) (by decide) ?_
          exact hj2 r45.2 trivial
        refine r_if_ne X.c1 dL_law_548 (tgt := 563) (by decide) ?_ ?_
        ·
          exact tw_Rf.sub [2, 3, 4, 5, 6] rfl (hj49 () trivial)
        ·
          refine r_aload_n X.c1 dL_law_551 rfl 3 rfl ?_
          refine r_iconst X.c1 dL_law_552 (v := (0 : Int32)) (by decide) ?_
          refine r_lald (k := 1036) X.c1 dL_law_553 tw_kc1036 ?_
          refine r_iload X.c1 dL_law_554 0 rfl ?_
          refine r_i2l X.c1 dL_law_556 ?_
          refine r_lcmp X.c1 dL_law_557 ?_
          refine r_if_eq X.c1 dL_law_558 (tgt := 563) (by decide) ?_ ?_
          ·
            exact tw_Rf.sub [2, 3, 4, 5, 6] rfl (hj49 () trivial)
          ·
            refine r_iconst X.c1 dL_law_561 (v := (0 : Int32)) (by decide) ?_
            exact fun hE => absurd (Option.some.inj hE) (by decide)
      ·
        refine r_iconst X.c1 dL_law_544 (v := (0 : Int32)) (by decide) ?_
        exact fun hE => absurd (Option.some.inj hE) (by decide)
    refine r_ite (fun h50 => ?_) (fun h50 => ?_)
    ·
      refine r_tsw X dL_law_40 h50 (by decide) (by decide) rfl (tgt := 566) (by decide) ?_
      refine r_aload_n X dL_law_566 rfl 3 rfl ?_
      refine r_aload_n X dL_law_567 rfl 4 rfl ?_
      refine r_iload X dL_law_568 0 rfl ?_
      refine r_iconst X dL_law_570 (v := (1 : Int32)) (by decide) ?_
      refine r_iadd X dL_law_571 ?_
      refine r_sld X hX hbl hbB dL_law_572 ?_
      refine r_aload_n X dL_law_573 rfl 4 rfl ?_
      refine r_iload X dL_law_574 0 rfl ?_
      refine r_iconst X dL_law_576 (v := (2 : Int32)) (by decide) ?_
      refine r_iadd X dL_law_577 ?_
      refine r_sld X hX hbl hbB dL_law_578 ?_
      refine r_aload_n X dL_law_579 rfl 4 rfl ?_
      refine r_iload X dL_law_580 0 rfl ?_
      refine r_iconst X dL_law_582 (v := (3 : Int32)) (by decide) ?_
      refine r_iadd X dL_law_583 ?_
      refine r_sld X hX hbl hbB dL_law_584 ?_
      refine r_aload_n X dL_law_585 rfl 1 rfl ?_
      refine r_bd (fun r51 hr51 => ?_)
      refine r_callSW (As := [.ref (tw_zB z + 0), .int (xs (Int32.toNatClampNeg (a0.1 + (1 : Int32)))), .int (xs (Int32.toNatClampNeg (a0.1 + (2 : Int32)))), .int (xs (Int32.toNatClampNeg (a0.1 + (3 : Int32)))), .ref (tw_zB z + 1036)]) (st := []) X dL_law_586 (tw_m_L_ends hst hr51) tw_y_L_ends _ tw_z1110 rfl ⟨rfl, rfl, tw_le hfr rfl, tw_le hlo rfl⟩ hc1 (Nat.le_of_ble_eq_true rfl) rfl ?_
      refine r_istore X.c1 dL_law_589 (by decide) (LL := fun v52 => [(5, .int v52), (4, .int a0.1), (3, .ref (tw_zB z + 1036)), (2, .ref (tw_zB z + 442)), (1, .ref (tw_zB z + 0)), (0, .ref b)]) (fun _ => rfl) (fun v52 => ?_)
      refine r_aload_n X.c1 dL_law_591 rfl 3 rfl ?_
      refine r_aload_n X.c1 dL_law_592 rfl 5 rfl ?_
      refine r_iload X.c1 dL_law_593 1 rfl ?_
      refine r_iconst X.c1 dL_law_595 (v := (1 : Int32)) (by decide) ?_
      refine r_iadd X.c1 dL_law_596 ?_
      refine r_sld X hX hbl hbB dL_law_597 ?_
      refine r_aload_n X.c1 dL_law_598 rfl 5 rfl ?_
      refine r_iload X.c1 dL_law_599 1 rfl ?_
      refine r_iconst X.c1 dL_law_601 (v := (2 : Int32)) (by decide) ?_
      refine r_iadd X.c1 dL_law_602 ?_
      refine r_sld X hX hbl hbB dL_law_603 ?_
      refine r_aload_n X.c1 dL_law_604 rfl 5 rfl ?_
      refine r_iload X.c1 dL_law_605 1 rfl ?_
      refine r_iconst X.c1 dL_law_607 (v := (3 : Int32)) (by decide) ?_
      refine r_iadd X.c1 dL_law_608 ?_
      refine r_sld X hX hbl hbB dL_law_609 ?_
      refine r_bd (fun r53 hr53 => ?_)
      refine tw_c_X12_ends X.c1 dL_law_610 _ tw_w1620  hr53 (tw_le hfr rfl) (tw_le hlo rfl) hc1 (Nat.le_of_ble_eq_true rfl) trivial ?_
      refine r_istore X.c1 dL_law_613 (by decide) (LL := fun v54 => [(6, .int v54), (5, .int v52), (4, .int a0.1), (3, .ref (tw_zB z + 1036)), (2, .ref (tw_zB z + 442)), (1, .ref (tw_zB z + 0)), (0, .ref b)]) (fun _ => rfl) (fun v54 => ?_)
      refine r_aload_n X.c1 dL_law_615 rfl 4 rfl ?_
      refine r_bd (fun r55 hr55 => ?_)
      refine tw_c_X12_thrown X.c1 dL_law_616 _ tw_w1347  hr55 (tw_le hfr rfl) (tw_le hlo rfl) hc1 (Nat.le_of_ble_eq_true rfl) trivial ?_
      refine r_iload X.c1 dL_law_619 1 rfl ?_
      refine r_icmp_eq X.c1 dL_law_621 (tgt := 626) (by decide) ?_ ?_
      ·
        refine r_iload X.c1 dL_law_626 1 rfl ?_
        refine r_jn (α := Unit) (σJ := fun a56 => r53.2) (pcJ := 650) (LJ := fun a56 => [(4, .int a0.1), (3, .ref (tw_zB z + 1036)), (2, .ref (tw_zB z + 442)), (1, .ref (tw_zB z + 0)), (0, .ref b)]) (stJ := fun a56 => []) (ok := fun a56 => True) (fun a56 hoka56 => ?_) (fun j57 hj57 => ?_)
        ·
          refine r_goto X.c1 dL_law_650 (tgt := 1425) (by decide) ?_
          exact hj2 r53.2 trivial
        refine r_if_ne X.c1 dL_law_628 (tgt := 650) (by decide) ?_ ?_
        ·
          exact tw_Rf.sub [2, 3, 4, 5, 6] rfl (hj57 () trivial)
        ·
          refine r_aload_n X.c1 dL_law_631 rfl 3 rfl ?_
          refine r_iconst X.c1 dL_law_632 (v := (0 : Int32)) (by decide) ?_
          refine r_lald (k := 1036) X.c1 dL_law_633 tw_kc1036 ?_
          refine r_iload X.c1 dL_law_634 0 rfl ?_
          refine r_jn (α := Int64) (σJ := fun a58 => r53.2) (pcJ := 644) (LJ := fun a58 => [(4, .int a0.1), (3, .ref (tw_zB z + 1036)), (2, .ref (tw_zB z + 442)), (1, .ref (tw_zB z + 0)), (0, .ref b)]) (stJ := fun a58 => [.long a58, .long (Int32.toInt64 (r53.2 1036 (Int32.toNatClampNeg (0 : Int32))))]) (ok := fun a58 => True) (fun a58 hoka58 => ?_) (fun j59 hj59 => ?_)
          ·
            refine r_lcmp X.c1 dL_law_644 ?_
            refine r_if_eq X.c1 dL_law_645 (tgt := 650) (by decide) ?_ ?_
            ·
              exact hj57 () trivial
            ·
              refine r_iconst X.c1 dL_law_648 (v := (0 : Int32)) (by decide) ?_
              exact fun hE => absurd (Option.some.inj hE) (by decide)
          refine r_if_eq X.c1 dL_law_636 (tgt := 643) (by decide) ?_ ?_
          ·
            refine r_lconst X.c1 dL_law_643 (v := (0 : Int64)) (by decide) ?_
            exact tw_Rf.sub [2, 3, 4, 5, 6] rfl (hj59 (0 : Int64) trivial)
          ·
            refine r_lconst X.c1 dL_law_639 (v := (1 : Int64)) (by decide) ?_
            refine r_goto X.c1 dL_law_640 (tgt := 644) (by decide) ?_
            exact tw_Rf.sub [2, 3, 4, 5, 6] rfl (hj59 (1 : Int64) trivial)
      ·
        refine r_iconst X.c1 dL_law_624 (v := (0 : Int32)) (by decide) ?_
        exact fun hE => absurd (Option.some.inj hE) (by decide)
    refine r_ite (fun h60 => ?_) (fun h60 => ?_)
    ·
      refine r_tsw X dL_law_40 h60 (by decide) (by decide) rfl (tgt := 653) (by decide) ?_
      refine r_aload_n X dL_law_653 rfl 3 rfl ?_
      refine r_aload_n X dL_law_654 rfl 4 rfl ?_
      refine r_iload X dL_law_655 0 rfl ?_
      refine r_iconst X dL_law_657 (v := (1 : Int32)) (by decide) ?_
      refine r_iadd X dL_law_658 ?_
      refine r_sld X hX hbl hbB dL_law_659 ?_
      refine r_aload_n X dL_law_660 rfl 4 rfl ?_
      refine r_iload X dL_law_661 0 rfl ?_
      refine r_iconst X dL_law_663 (v := (2 : Int32)) (by decide) ?_
      refine r_iadd X dL_law_664 ?_
      refine r_sld X hX hbl hbB dL_law_665 ?_
      refine r_aload_n X dL_law_666 rfl 1 rfl ?_
      refine r_bd (fun r61 hr61 => ?_)
      refine r_callSW (As := [.ref (tw_zB z + 0), .int (xs (Int32.toNatClampNeg (a0.1 + (1 : Int32)))), .int (xs (Int32.toNatClampNeg (a0.1 + (2 : Int32)))), .ref (tw_zB z + 1036)]) (st := []) X dL_law_667 (tw_m_L_why hst hr61) tw_y_L_why _ tw_z1118 rfl ⟨rfl, rfl, tw_le hfr rfl, tw_le hlo rfl⟩ hc1 (Nat.le_of_ble_eq_true rfl) rfl ?_
      refine r_istore X.c1 dL_law_670 (by decide) (LL := fun v62 => [(5, .int v62), (4, .int a0.1), (3, .ref (tw_zB z + 1036)), (2, .ref (tw_zB z + 442)), (1, .ref (tw_zB z + 0)), (0, .ref b)]) (fun _ => rfl) (fun v62 => ?_)
      refine r_aload_n X.c1 dL_law_672 rfl 3 rfl ?_
      refine r_aload_n X.c1 dL_law_673 rfl 5 rfl ?_
      refine r_iload X.c1 dL_law_674 1 rfl ?_
      refine r_iconst X.c1 dL_law_676 (v := (1 : Int32)) (by decide) ?_
      refine r_iadd X.c1 dL_law_677 ?_
      refine r_sld X hX hbl hbB dL_law_678 ?_
      refine r_aload_n X.c1 dL_law_679 rfl 5 rfl ?_
      refine r_iload X.c1 dL_law_680 1 rfl ?_
      refine r_iconst X.c1 dL_law_682 (v := (2 : Int32)) (by decide) ?_
      refine r_iadd X.c1 dL_law_683 ?_
      refine r_sld X hX hbl hbB dL_law_684 ?_
      refine r_bd (fun r63 hr63 => ?_)
      refine tw_c_X12_why X.c1 dL_law_685 _ tw_w1624  hr63 (tw_le hfr rfl) (tw_le hlo rfl) hc1 (Nat.le_of_ble_eq_true rfl) trivial ?_
      refine r_istore X.c1 dL_law_688 (by decide) (LL := fun v64 => [(6, .int v64), (5, .int v62), (4, .int a0.1), (3, .ref (tw_zB z + 1036)), (2, .ref (tw_zB z + 442)), (1, .ref (tw_zB z + 0)), (0, .ref b)]) (fun _ => rfl) (fun v64 => ?_)
      refine r_aload_n X.c1 dL_law_690 rfl 4 rfl ?_
      refine r_bd (fun r65 hr65 => ?_)
      refine tw_c_X12_thrown X.c1 dL_law_691 _ tw_w1347  hr65 (tw_le hfr rfl) (tw_le hlo rfl) hc1 (Nat.le_of_ble_eq_true rfl) trivial ?_
      refine r_iload X.c1 dL_law_694 1 rfl ?_
      refine r_icmp_eq X.c1 dL_law_696 (tgt := 701) (by decide) ?_ ?_
      ·
        refine r_iload X.c1 dL_law_701 1 rfl ?_
        refine r_jn (α := Unit) (σJ := fun a66 => r63.2) (pcJ := 718) (LJ := fun a66 => [(4, .int a0.1), (3, .ref (tw_zB z + 1036)), (2, .ref (tw_zB z + 442)), (1, .ref (tw_zB z + 0)), (0, .ref b)]) (stJ := fun a66 => []) (ok := fun a66 => True) (fun a66 hoka66 => ?_) (fun j67 hj67 => ?_)
        ·
          refine r_goto X.c1 dL_law_718 (tgt := 1425) (by decide) ?_
          exact hj2 r63.2 trivial
        refine r_if_ne X.c1 dL_law_703 (tgt := 718) (by decide) ?_ ?_
        ·
          exact tw_Rf.sub [2, 3, 4, 5, 6] rfl (hj67 () trivial)
        ·
          refine r_aload_n X.c1 dL_law_706 rfl 3 rfl ?_
          refine r_iconst X.c1 dL_law_707 (v := (0 : Int32)) (by decide) ?_
          refine r_lald (k := 1036) X.c1 dL_law_708 tw_kc1036 ?_
          refine r_iload X.c1 dL_law_709 0 rfl ?_
          refine r_i2l X.c1 dL_law_711 ?_
          refine r_lcmp X.c1 dL_law_712 ?_
          refine r_if_eq X.c1 dL_law_713 (tgt := 718) (by decide) ?_ ?_
          ·
            exact tw_Rf.sub [2, 3, 4, 5, 6] rfl (hj67 () trivial)
          ·
            refine r_iconst X.c1 dL_law_716 (v := (0 : Int32)) (by decide) ?_
            exact fun hE => absurd (Option.some.inj hE) (by decide)
      ·
        refine r_iconst X.c1 dL_law_699 (v := (0 : Int32)) (by decide) ?_
        exact fun hE => absurd (Option.some.inj hE) (by decide)
    refine r_ite (fun h68 => ?_) (fun h68 => ?_)
    ·
      refine r_tsw X dL_law_40 h68 (by decide) (by decide) rfl (tgt := 721) (by decide) ?_
      refine r_aload_n X dL_law_721 rfl 3 rfl ?_
      refine r_aload_n X dL_law_722 rfl 4 rfl ?_
      refine r_iload X dL_law_723 0 rfl ?_
      refine r_iconst X dL_law_725 (v := (1 : Int32)) (by decide) ?_
      refine r_iadd X dL_law_726 ?_
      refine r_sld X hX hbl hbB dL_law_727 ?_
      refine r_aload_n X dL_law_728 rfl 4 rfl ?_
      refine r_iload X dL_law_729 0 rfl ?_
      refine r_iconst X dL_law_731 (v := (2 : Int32)) (by decide) ?_
      refine r_iadd X dL_law_732 ?_
      refine r_sld X hX hbl hbB dL_law_733 ?_
      refine r_aload_n X dL_law_734 rfl 4 rfl ?_
      refine r_iload X dL_law_735 0 rfl ?_
      refine r_iconst X dL_law_737 (v := (3 : Int32)) (by decide) ?_
      refine r_iadd X dL_law_738 ?_
      refine r_sld X hX hbl hbB dL_law_739 ?_
      refine r_aload_n X dL_law_740 rfl 4 rfl ?_
      refine r_iload X dL_law_741 0 rfl ?_
      refine r_iconst X dL_law_743 (v := (4 : Int32)) (by decide) ?_
      refine r_iadd X dL_law_744 ?_
      refine r_sld X hX hbl hbB dL_law_745 ?_
      refine r_aload_n X dL_law_746 rfl 1 rfl ?_
      refine r_bd (fun r69 hr69 => ?_)
      refine r_callSW (As := [.ref (tw_zB z + 0), .int (xs (Int32.toNatClampNeg (a0.1 + (1 : Int32)))), .int (xs (Int32.toNatClampNeg (a0.1 + (2 : Int32)))), .int (xs (Int32.toNatClampNeg (a0.1 + (3 : Int32)))), .int (xs (Int32.toNatClampNeg (a0.1 + (4 : Int32)))), .ref (tw_zB z + 1036)]) (st := []) X dL_law_747 (tw_m_L_walk hst hr69) tw_y_L_walk _ tw_z1129 rfl ⟨rfl, rfl, tw_le hfr rfl, tw_le hlo rfl⟩ hc1 (Nat.le_of_ble_eq_true rfl) rfl ?_
      refine r_istore X.c1 dL_law_750 (by decide) (LL := fun v70 => [(5, .int v70), (4, .int a0.1), (3, .ref (tw_zB z + 1036)), (2, .ref (tw_zB z + 442)), (1, .ref (tw_zB z + 0)), (0, .ref b)]) (fun _ => rfl) (fun v70 => ?_)
      refine r_aload_n X.c1 dL_law_752 rfl 3 rfl ?_
      refine r_aload_n X.c1 dL_law_753 rfl 5 rfl ?_
      refine r_iload X.c1 dL_law_754 1 rfl ?_
      refine r_iconst X.c1 dL_law_756 (v := (1 : Int32)) (by decide) ?_
      refine r_iadd X.c1 dL_law_757 ?_
      refine r_sld X hX hbl hbB dL_law_758 ?_
      refine r_aload_n X.c1 dL_law_759 rfl 5 rfl ?_
      refine r_iload X.c1 dL_law_760 1 rfl ?_
      refine r_iconst X.c1 dL_law_762 (v := (2 : Int32)) (by decide) ?_
      refine r_iadd X.c1 dL_law_763 ?_
      refine r_sld X hX hbl hbB dL_law_764 ?_
      refine r_aload_n X.c1 dL_law_765 rfl 5 rfl ?_
      refine r_iload X.c1 dL_law_766 1 rfl ?_
      refine r_iconst X.c1 dL_law_768 (v := (3 : Int32)) (by decide) ?_
      refine r_iadd X.c1 dL_law_769 ?_
      refine r_sld X hX hbl hbB dL_law_770 ?_
      refine r_aload_n X.c1 dL_law_771 rfl 5 rfl ?_
      refine r_iload X.c1 dL_law_772 1 rfl ?_
      refine r_iconst X.c1 dL_law_774 (v := (4 : Int32)) (by decide) ?_
      refine r_iadd X.c1 dL_law_775 ?_
      refine r_sld X hX hbl hbB dL_law_776 ?_
      refine r_bd (fun r71 hr71 => ?_)
      refine tw_c_X12_walk X.c1 dL_law_777 _ tw_w1628  hr71 (tw_le hfr rfl) (tw_le hlo rfl) hc1 (Nat.le_of_ble_eq_true rfl) trivial ?_
      refine r_istore X.c1 dL_law_780 (by decide) (LL := fun v72 => [(6, .int v72), (5, .int v70), (4, .int a0.1), (3, .ref (tw_zB z + 1036)), (2, .ref (tw_zB z + 442)), (1, .ref (tw_zB z + 0)), (0, .ref b)]) (fun _ => rfl) (fun v72 => ?_)
      refine r_aload_n X.c1 dL_law_782 rfl 4 rfl ?_
      refine r_bd (fun r73 hr73 => ?_)
      refine tw_c_X12_thrown X.c1 dL_law_783 _ tw_w1347  hr73 (tw_le hfr rfl) (tw_le hlo rfl) hc1 (Nat.le_of_ble_eq_true rfl) trivial ?_
      refine r_iload X.c1 dL_law_786 1 rfl ?_
      refine r_icmp_eq X.c1 dL_law_788 (tgt := 793) (by decide) ?_ ?_
      ·
        refine r_iload X.c1 dL_law_793 1 rfl ?_
        refine r_jn (α := Unit) (σJ := fun a74 => r71.2) (pcJ := 810) (LJ := fun a74 => [(4, .int a0.1), (3, .ref (tw_zB z + 1036)), (2, .ref (tw_zB z + 442)), (1, .ref (tw_zB z + 0)), (0, .ref b)]) (stJ := fun a74 => []) (ok := fun a74 => True) (fun a74 hoka74 => ?_) (fun j75 hj75 => ?_)
        ·
          refine r_goto X.c1 dL_law_810 (tgt := 1425) (by decide) ?_
          exact hj2 r71.2 trivial
        refine r_if_ne X.c1 dL_law_795 (tgt := 810) (by decide) ?_ ?_
        ·
          exact tw_Rf.sub [2, 3, 4, 5, 6] rfl (hj75 () trivial)
        ·
          refine r_aload_n X.c1 dL_law_798 rfl 3 rfl ?_
          refine r_iconst X.c1 dL_law_799 (v := (0 : Int32)) (by decide) ?_
          refine r_lald (k := 1036) X.c1 dL_law_800 tw_kc1036 ?_
          refine r_iload X.c1 dL_law_801 0 rfl ?_
          refine r_i2l X.c1 dL_law_803 ?_
          refine r_lcmp X.c1 dL_law_804 ?_
          refine r_if_eq X.c1 dL_law_805 (tgt := 810) (by decide) ?_ ?_
          ·
            exact tw_Rf.sub [2, 3, 4, 5, 6] rfl (hj75 () trivial)
          ·
            refine r_iconst X.c1 dL_law_808 (v := (0 : Int32)) (by decide) ?_
            exact fun hE => absurd (Option.some.inj hE) (by decide)
      ·
        refine r_iconst X.c1 dL_law_791 (v := (0 : Int32)) (by decide) ?_
        exact fun hE => absurd (Option.some.inj hE) (by decide)
    refine r_ite (fun h76 => ?_) (fun h76 => ?_)
    ·
      refine r_tsw X dL_law_40 h76 (by decide) (by decide) rfl (tgt := 813) (by decide) ?_
      refine r_aload_n X dL_law_813 rfl 3 rfl ?_
      refine r_aload_n X dL_law_814 rfl 4 rfl ?_
      refine r_iload X dL_law_815 0 rfl ?_
      refine r_iconst X dL_law_817 (v := (1 : Int32)) (by decide) ?_
      refine r_iadd X dL_law_818 ?_
      refine r_sld X hX hbl hbB dL_law_819 ?_
      refine r_aload_n X dL_law_820 rfl 4 rfl ?_
      refine r_iload X dL_law_821 0 rfl ?_
      refine r_iconst X dL_law_823 (v := (2 : Int32)) (by decide) ?_
      refine r_iadd X dL_law_824 ?_
      refine r_sld X hX hbl hbB dL_law_825 ?_
      refine r_aload_n X dL_law_826 rfl 4 rfl ?_
      refine r_iload X dL_law_827 0 rfl ?_
      refine r_iconst X dL_law_829 (v := (3 : Int32)) (by decide) ?_
      refine r_iadd X dL_law_830 ?_
      refine r_sld X hX hbl hbB dL_law_831 ?_
      refine r_aload_n X dL_law_832 rfl 1 rfl ?_
      refine r_bd (fun r77 hr77 => ?_)
      refine r_callSW (As := [.ref (tw_zB z + 0), .int (xs (Int32.toNatClampNeg (a0.1 + (1 : Int32)))), .int (xs (Int32.toNatClampNeg (a0.1 + (2 : Int32)))), .int (xs (Int32.toNatClampNeg (a0.1 + (3 : Int32)))), .ref (tw_zB z + 1036)]) (st := []) X dL_law_833 (tw_m_L_starts hst hr77) tw_y_L_starts _ tw_z1174 rfl ⟨rfl, rfl, tw_le hfr rfl, tw_le hlo rfl⟩ hc1 (Nat.le_of_ble_eq_true rfl) rfl ?_
      refine r_istore X.c1 dL_law_836 (by decide) (LL := fun v78 => [(5, .int v78), (4, .int a0.1), (3, .ref (tw_zB z + 1036)), (2, .ref (tw_zB z + 442)), (1, .ref (tw_zB z + 0)), (0, .ref b)]) (fun _ => rfl) (fun v78 => ?_)
      refine r_aload_n X.c1 dL_law_838 rfl 3 rfl ?_
      refine r_aload_n X.c1 dL_law_839 rfl 5 rfl ?_
      refine r_iload X.c1 dL_law_840 1 rfl ?_
      refine r_iconst X.c1 dL_law_842 (v := (1 : Int32)) (by decide) ?_
      refine r_iadd X.c1 dL_law_843 ?_
      refine r_sld X hX hbl hbB dL_law_844 ?_
      refine r_aload_n X.c1 dL_law_845 rfl 5 rfl ?_
      refine r_iload X.c1 dL_law_846 1 rfl ?_
      refine r_iconst X.c1 dL_law_848 (v := (2 : Int32)) (by decide) ?_
      refine r_iadd X.c1 dL_law_849 ?_
      refine r_sld X hX hbl hbB dL_law_850 ?_
      refine r_aload_n X.c1 dL_law_851 rfl 5 rfl ?_
      refine r_iload X.c1 dL_law_852 1 rfl ?_
      refine r_iconst X.c1 dL_law_854 (v := (3 : Int32)) (by decide) ?_
      refine r_iadd X.c1 dL_law_855 ?_
      refine r_sld X hX hbl hbB dL_law_856 ?_
      refine r_bd (fun r79 hr79 => ?_)
      refine tw_c_X12_starts X.c1 dL_law_857 _ tw_w1640  hr79 (tw_le hfr rfl) (tw_le hlo rfl) hc1 (Nat.le_of_ble_eq_true rfl) trivial ?_
      refine r_istore X.c1 dL_law_860 (by decide) (LL := fun v80 => [(6, .int v80), (5, .int v78), (4, .int a0.1), (3, .ref (tw_zB z + 1036)), (2, .ref (tw_zB z + 442)), (1, .ref (tw_zB z + 0)), (0, .ref b)]) (fun _ => rfl) (fun v80 => ?_)
      refine r_aload_n X.c1 dL_law_862 rfl 4 rfl ?_
      refine r_bd (fun r81 hr81 => ?_)
      refine tw_c_X12_thrown X.c1 dL_law_863 _ tw_w1347  hr81 (tw_le hfr rfl) (tw_le hlo rfl) hc1 (Nat.le_of_ble_eq_true rfl) trivial ?_
      refine r_iload X.c1 dL_law_866 1 rfl ?_
      refine r_icmp_eq X.c1 dL_law_868 (tgt := 873) (by decide) ?_ ?_
      ·
        refine r_iload X.c1 dL_law_873 1 rfl ?_
        refine r_jn (α := Unit) (σJ := fun a82 => r79.2) (pcJ := 890) (LJ := fun a82 => [(4, .int a0.1), (3, .ref (tw_zB z + 1036)), (2, .ref (tw_zB z + 442)), (1, .ref (tw_zB z + 0)), (0, .ref b)]) (stJ := fun a82 => []) (ok := fun a82 => True) (fun a82 hoka82 => ?_) (fun j83 hj83 => ?_)
        ·
          refine r_goto X.c1 dL_law_890 (tgt := 1425) (by decide) ?_
          exact hj2 r79.2 trivial
        refine r_if_ne X.c1 dL_law_875 (tgt := 890) (by decide) ?_ ?_
        ·
          exact tw_Rf.sub [2, 3, 4, 5, 6] rfl (hj83 () trivial)
        ·
          refine r_aload_n X.c1 dL_law_878 rfl 3 rfl ?_
          refine r_iconst X.c1 dL_law_879 (v := (0 : Int32)) (by decide) ?_
          refine r_lald (k := 1036) X.c1 dL_law_880 tw_kc1036 ?_
          refine r_iload X.c1 dL_law_881 0 rfl ?_
          refine r_i2l X.c1 dL_law_883 ?_
          refine r_lcmp X.c1 dL_law_884 ?_
          refine r_if_eq X.c1 dL_law_885 (tgt := 890) (by decide) ?_ ?_
          ·
            exact tw_Rf.sub [2, 3, 4, 5, 6] rfl (hj83 () trivial)
          ·
            refine r_iconst X.c1 dL_law_888 (v := (0 : Int32)) (by decide) ?_
            exact fun hE => absurd (Option.some.inj hE) (by decide)
      ·
        refine r_iconst X.c1 dL_law_871 (v := (0 : Int32)) (by decide) ?_
        exact fun hE => absurd (Option.some.inj hE) (by decide)
    refine r_ite (fun h84 => ?_) (fun h84 => ?_)
    ·
      refine r_tsw X dL_law_40 h84 (by decide) (by decide) rfl (tgt := 893) (by decide) ?_
      refine r_aload_n X dL_law_893 rfl 3 rfl ?_
      refine r_aload_n X dL_law_894 rfl 4 rfl ?_
      refine r_iload X dL_law_895 0 rfl ?_
      refine r_iconst X dL_law_897 (v := (1 : Int32)) (by decide) ?_
      refine r_iadd X dL_law_898 ?_
      refine r_sld X hX hbl hbB dL_law_899 ?_
      refine r_aload_n X dL_law_900 rfl 4 rfl ?_
      refine r_iload X dL_law_901 0 rfl ?_
      refine r_iconst X dL_law_903 (v := (2 : Int32)) (by decide) ?_
      refine r_iadd X dL_law_904 ?_
      refine r_sld X hX hbl hbB dL_law_905 ?_
      refine r_aload_n X dL_law_906 rfl 1 rfl ?_
      refine r_bd (fun r85 hr85 => ?_)
      refine r_callSW (As := [.ref (tw_zB z + 0), .int (xs (Int32.toNatClampNeg (a0.1 + (1 : Int32)))), .int (xs (Int32.toNatClampNeg (a0.1 + (2 : Int32)))), .ref (tw_zB z + 1036)]) (st := []) X dL_law_907 (tw_m_L_distance hst hr85) tw_y_L_distance _ tw_z1185 rfl ⟨rfl, rfl, tw_le hfr rfl, tw_le hlo rfl⟩ hc1 (Nat.le_of_ble_eq_true rfl) rfl ?_
      refine r_istore X.c1 dL_law_910 (by decide) (LL := fun v86 => [(5, .int v86), (4, .int a0.1), (3, .ref (tw_zB z + 1036)), (2, .ref (tw_zB z + 442)), (1, .ref (tw_zB z + 0)), (0, .ref b)]) (fun _ => rfl) (fun v86 => ?_)
      refine r_aload_n X.c1 dL_law_912 rfl 3 rfl ?_
      refine r_aload_n X.c1 dL_law_913 rfl 5 rfl ?_
      refine r_iload X.c1 dL_law_914 1 rfl ?_
      refine r_iconst X.c1 dL_law_916 (v := (1 : Int32)) (by decide) ?_
      refine r_iadd X.c1 dL_law_917 ?_
      refine r_sld X hX hbl hbB dL_law_918 ?_
      refine r_aload_n X.c1 dL_law_919 rfl 5 rfl ?_
      refine r_iload X.c1 dL_law_920 1 rfl ?_
      refine r_iconst X.c1 dL_law_922 (v := (2 : Int32)) (by decide) ?_
      refine r_iadd X.c1 dL_law_923 ?_
      refine r_sld X hX hbl hbB dL_law_924 ?_
      refine r_bd (fun r87 hr87 => ?_)
      refine tw_c_X12_distance X.c1 dL_law_925 _ tw_w1644  hr87 (tw_le hfr rfl) (tw_le hlo rfl) hc1 (Nat.le_of_ble_eq_true rfl) trivial ?_
      refine r_istore X.c1 dL_law_928 (by decide) (LL := fun v88 => [(6, .int v88), (5, .int v86), (4, .int a0.1), (3, .ref (tw_zB z + 1036)), (2, .ref (tw_zB z + 442)), (1, .ref (tw_zB z + 0)), (0, .ref b)]) (fun _ => rfl) (fun v88 => ?_)
      refine r_aload_n X.c1 dL_law_930 rfl 4 rfl ?_
      refine r_bd (fun r89 hr89 => ?_)
      refine tw_c_X12_thrown X.c1 dL_law_931 _ tw_w1347  hr89 (tw_le hfr rfl) (tw_le hlo rfl) hc1 (Nat.le_of_ble_eq_true rfl) trivial ?_
      refine r_iload X.c1 dL_law_934 1 rfl ?_
      refine r_icmp_eq X.c1 dL_law_936 (tgt := 941) (by decide) ?_ ?_
      ·
        refine r_iload X.c1 dL_law_941 1 rfl ?_
        refine r_jn (α := Unit) (σJ := fun a90 => r87.2) (pcJ := 958) (LJ := fun a90 => [(4, .int a0.1), (3, .ref (tw_zB z + 1036)), (2, .ref (tw_zB z + 442)), (1, .ref (tw_zB z + 0)), (0, .ref b)]) (stJ := fun a90 => []) (ok := fun a90 => True) (fun a90 hoka90 => ?_) (fun j91 hj91 => ?_)
        ·
          refine r_goto X.c1 dL_law_958 (tgt := 1425) (by decide) ?_
          exact hj2 r87.2 trivial
        refine r_if_ne X.c1 dL_law_943 (tgt := 958) (by decide) ?_ ?_
        ·
          exact tw_Rf.sub [2, 3, 4, 5, 6] rfl (hj91 () trivial)
        ·
          refine r_aload_n X.c1 dL_law_946 rfl 3 rfl ?_
          refine r_iconst X.c1 dL_law_947 (v := (0 : Int32)) (by decide) ?_
          refine r_lald (k := 1036) X.c1 dL_law_948 tw_kc1036 ?_
          refine r_iload X.c1 dL_law_949 0 rfl ?_
          refine r_i2l X.c1 dL_law_951 ?_
          refine r_lcmp X.c1 dL_law_952 ?_
          refine r_if_eq X.c1 dL_law_953 (tgt := 958) (by decide) ?_ ?_
          ·
            exact tw_Rf.sub [2, 3, 4, 5, 6] rfl (hj91 () trivial)
          ·
            refine r_iconst X.c1 dL_law_956 (v := (0 : Int32)) (by decide) ?_
            exact fun hE => absurd (Option.some.inj hE) (by decide)
      ·
        refine r_iconst X.c1 dL_law_939 (v := (0 : Int32)) (by decide) ?_
        exact fun hE => absurd (Option.some.inj hE) (by decide)
    refine r_ite (fun h92 => ?_) (fun h92 => ?_)
    ·
      refine r_tsw X dL_law_40 h92 (by decide) (by decide) rfl (tgt := 961) (by decide) ?_
      refine r_aload_n X dL_law_961 rfl 3 rfl ?_
      refine r_bd (fun r93 hr93 => ?_)
      refine tw_c_X11_nearest X dL_law_962 _ tw_w517  hr93 (tw_le hfr rfl) (tw_le hlo rfl) hcs (Nat.le_of_ble_eq_true rfl) trivial ?_
      refine r_aload_n X dL_law_965 rfl 2 rfl ?_
      refine r_bd (fun r94 hr94 => ?_)
      refine tw_c_X12_nearest X dL_law_966 _ tw_w1652  hr94 (tw_le hfr rfl) (tw_le hlo rfl) hcs (Nat.le_of_ble_eq_true rfl) trivial ?_
      refine r_icmp_eq X dL_law_969 (tgt := 1425) (by decide) ?_ ?_
      ·
        refine r_wid ?_
        exact hj2 r94.2 trivial
      ·
        refine r_iconst X dL_law_972 (v := (0 : Int32)) (by decide) ?_
        exact fun hE => absurd (Option.some.inj hE) (by decide)
    refine r_ite (fun h95 => ?_) (fun h95 => ?_)
    ·
      refine r_tsw X dL_law_40 h95 (by decide) (by decide) rfl (tgt := 974) (by decide) ?_
      refine r_aload_n X dL_law_974 rfl 3 rfl ?_
      refine r_bd (fun r96 hr96 => ?_)
      refine tw_c_X11_tour X dL_law_975 _ tw_w608  hr96 (tw_le hfr rfl) (tw_le hlo rfl) hcs (Nat.le_of_ble_eq_true rfl) trivial ?_
      refine r_aload_n X dL_law_978 rfl 2 rfl ?_
      refine r_bd (fun r97 hr97 => ?_)
      refine tw_c_X12_tour X dL_law_979 _ tw_w1656  hr97 (tw_le hfr rfl) (tw_le hlo rfl) hcs (Nat.le_of_ble_eq_true rfl) trivial ?_
      refine r_icmp_eq X dL_law_982 (tgt := 1425) (by decide) ?_ ?_
      ·
        refine r_wid ?_
        exact hj2 r97.2 trivial
      ·
        refine r_iconst X dL_law_985 (v := (0 : Int32)) (by decide) ?_
        exact fun hE => absurd (Option.some.inj hE) (by decide)
    refine r_ite (fun h98 => ?_) (fun h98 => ?_)
    ·
      refine r_tsw X dL_law_40 h98 (by decide) (by decide) rfl (tgt := 987) (by decide) ?_
      refine r_aload_n X dL_law_987 rfl 3 rfl ?_
      refine r_aload_n X dL_law_988 rfl 4 rfl ?_
      refine r_iload X dL_law_989 0 rfl ?_
      refine r_iconst X dL_law_991 (v := (1 : Int32)) (by decide) ?_
      refine r_iadd X dL_law_992 ?_
      refine r_sld X hX hbl hbB dL_law_993 ?_
      refine r_aload_n X dL_law_994 rfl 4 rfl ?_
      refine r_iload X dL_law_995 0 rfl ?_
      refine r_iconst X dL_law_997 (v := (2 : Int32)) (by decide) ?_
      refine r_iadd X dL_law_998 ?_
      refine r_sld X hX hbl hbB dL_law_999 ?_
      refine r_aload_n X dL_law_1000 rfl 1 rfl ?_
      refine r_bd (fun r99 hr99 => ?_)
      refine r_callSW (As := [.ref (tw_zB z + 0), .int (xs (Int32.toNatClampNeg (a0.1 + (1 : Int32)))), .int (xs (Int32.toNatClampNeg (a0.1 + (2 : Int32)))), .ref (tw_zB z + 1036)]) (st := []) X dL_law_1001 (tw_m_L_part hst hr99) tw_y_L_part _ tw_z1193 rfl ⟨rfl, rfl, tw_le hfr rfl, tw_le hlo rfl⟩ hc1 (Nat.le_of_ble_eq_true rfl) rfl ?_
      refine r_istore X.c1 dL_law_1004 (by decide) (LL := fun v100 => [(5, .int v100), (4, .int a0.1), (3, .ref (tw_zB z + 1036)), (2, .ref (tw_zB z + 442)), (1, .ref (tw_zB z + 0)), (0, .ref b)]) (fun _ => rfl) (fun v100 => ?_)
      refine r_aload_n X.c1 dL_law_1006 rfl 3 rfl ?_
      refine r_aload_n X.c1 dL_law_1007 rfl 5 rfl ?_
      refine r_iload X.c1 dL_law_1008 1 rfl ?_
      refine r_iconst X.c1 dL_law_1010 (v := (1 : Int32)) (by decide) ?_
      refine r_iadd X.c1 dL_law_1011 ?_
      refine r_sld X hX hbl hbB dL_law_1012 ?_
      refine r_aload_n X.c1 dL_law_1013 rfl 5 rfl ?_
      refine r_iload X.c1 dL_law_1014 1 rfl ?_
      refine r_iconst X.c1 dL_law_1016 (v := (2 : Int32)) (by decide) ?_
      refine r_iadd X.c1 dL_law_1017 ?_
      refine r_sld X hX hbl hbB dL_law_1018 ?_
      refine r_bd (fun r101 hr101 => ?_)
      refine tw_c_X12_part X.c1 dL_law_1019 _ tw_w1665  hr101 (tw_le hfr rfl) (tw_le hlo rfl) hc1 (Nat.le_of_ble_eq_true rfl) trivial ?_
      refine r_istore X.c1 dL_law_1022 (by decide) (LL := fun v102 => [(6, .int v102), (5, .int v100), (4, .int a0.1), (3, .ref (tw_zB z + 1036)), (2, .ref (tw_zB z + 442)), (1, .ref (tw_zB z + 0)), (0, .ref b)]) (fun _ => rfl) (fun v102 => ?_)
      refine r_aload_n X.c1 dL_law_1024 rfl 4 rfl ?_
      refine r_bd (fun r103 hr103 => ?_)
      refine tw_c_X12_thrown X.c1 dL_law_1025 _ tw_w1347  hr103 (tw_le hfr rfl) (tw_le hlo rfl) hc1 (Nat.le_of_ble_eq_true rfl) trivial ?_
      refine r_iload X.c1 dL_law_1028 1 rfl ?_
      refine r_icmp_eq X.c1 dL_law_1030 (tgt := 1035) (by decide) ?_ ?_
      ·
        refine r_iload X.c1 dL_law_1035 1 rfl ?_
        refine r_jn (α := Unit) (σJ := fun a104 => r101.2) (pcJ := 1052) (LJ := fun a104 => [(4, .int a0.1), (3, .ref (tw_zB z + 1036)), (2, .ref (tw_zB z + 442)), (1, .ref (tw_zB z + 0)), (0, .ref b)]) (stJ := fun a104 => []) (ok := fun a104 => True) (fun a104 hoka104 => ?_) (fun j105 hj105 => ?_)
        ·
          refine r_goto X.c1 dL_law_1052 (tgt := 1425) (by decide) ?_
          exact hj2 r101.2 trivial
        refine r_if_ne X.c1 dL_law_1037 (tgt := 1052) (by decide) ?_ ?_
        ·
          exact tw_Rf.sub [2, 3, 4, 5, 6] rfl (hj105 () trivial)
        ·
          refine r_aload_n X.c1 dL_law_1040 rfl 3 rfl ?_
          refine r_iconst X.c1 dL_law_1041 (v := (0 : Int32)) (by decide) ?_
          refine r_lald (k := 1036) X.c1 dL_law_1042 tw_kc1036 ?_
          refine r_iload X.c1 dL_law_1043 0 rfl ?_
          refine r_i2l X.c1 dL_law_1045 ?_
          refine r_lcmp X.c1 dL_law_1046 ?_
          refine r_if_eq X.c1 dL_law_1047 (tgt := 1052) (by decide) ?_ ?_
          ·
            exact tw_Rf.sub [2, 3, 4, 5, 6] rfl (hj105 () trivial)
          ·
            refine r_iconst X.c1 dL_law_1050 (v := (0 : Int32)) (by decide) ?_
            exact fun hE => absurd (Option.some.inj hE) (by decide)
      ·
        refine r_iconst X.c1 dL_law_1033 (v := (0 : Int32)) (by decide) ?_
        exact fun hE => absurd (Option.some.inj hE) (by decide)
    refine r_ite (fun h106 => ?_) (fun h106 => ?_)
    ·
      refine r_tsw X dL_law_40 h106 (by decide) (by decide) rfl (tgt := 1055) (by decide) ?_
      refine r_aload_n X dL_law_1055 rfl 3 rfl ?_
      refine r_bd (fun r107 hr107 => ?_)
      refine tw_c_X11_meanDistance X dL_law_1056 _ tw_w649  hr107 (tw_le hfr rfl) (tw_le hlo rfl) hcs (Nat.le_of_ble_eq_true rfl) trivial ?_
      refine r_dstore X dL_law_1059 (by decide) (LL := fun v108 => [(5, .double v108), (4, .int a0.1), (3, .ref (tw_zB z + 1036)), (2, .ref (tw_zB z + 442)), (1, .ref (tw_zB z + 0)), (0, .ref b)]) (fun _ => rfl) (fun v108 => ?_)
      refine r_aload_n X dL_law_1061 rfl 3 rfl ?_
      refine r_bd (fun r109 hr109 => ?_)
      refine tw_c_X12_meanDistance X dL_law_1062 _ tw_w1669  hr109 (tw_le hfr rfl) (tw_le hlo rfl) hcs (Nat.le_of_ble_eq_true rfl) trivial ?_
      refine r_dstore X dL_law_1065 (by decide) (LL := fun v110 => [(7, .double v110), (5, .double v108), (4, .int a0.1), (3, .ref (tw_zB z + 1036)), (2, .ref (tw_zB z + 442)), (1, .ref (tw_zB z + 0)), (0, .ref b)]) (fun _ => rfl) (fun v110 => ?_)
      refine r_dload X dL_law_1067 1 rfl ?_
      refine r_dload X dL_law_1069 0 rfl ?_
      refine r_dcmp X dL_law_1071 ?_
      refine r_jn (α := Unit) (σJ := fun a111 => r109.2) (pcJ := 1093) (LJ := fun a111 => [(4, .int a0.1), (3, .ref (tw_zB z + 1036)), (2, .ref (tw_zB z + 442)), (1, .ref (tw_zB z + 0)), (0, .ref b)]) (stJ := fun a111 => []) (ok := fun a111 => True) (fun a111 hoka111 => ?_) (fun j112 hj112 => ?_)
      ·
        refine r_goto X dL_law_1093 (tgt := 1425) (by decide) ?_
        refine r_wid ?_
        exact hj2 r109.2 trivial
      refine r_if_eq X dL_law_1072 (tgt := 1093) (by decide) ?_ ?_
      ·
        exact tw_Rf.sub [2, 3, 4, 5, 6] rfl (hj112 () trivial)
      ·
        refine r_dload X dL_law_1075 1 rfl ?_
        refine r_dload X dL_law_1077 1 rfl ?_
        refine r_dcmp X dL_law_1079 ?_
        refine r_jn (α := Unit) (σJ := fun a113 => r109.2) (pcJ := 1091) (LJ := fun a113 => []) (stJ := fun a113 => []) (ok := fun a113 => True) (fun a113 hoka113 => ?_) (fun j114 hj114 => ?_)
        ·
          refine r_iconst X dL_law_1091 (v := (0 : Int32)) (by decide) ?_
          exact fun hE => absurd (Option.some.inj hE) (by decide)
        refine r_if_eq X dL_law_1080 (tgt := 1091) (by decide) ?_ ?_
        ·
          exact tw_Rf.sub [] rfl (hj114 () trivial)
        ·
          refine r_dload X dL_law_1083 0 rfl ?_
          refine r_dload X dL_law_1085 0 rfl ?_
          refine r_dcmp X dL_law_1087 ?_
          refine r_if_ne X dL_law_1088 (tgt := 1093) (by decide) ?_ ?_
          ·
            exact tw_Rf.sub [2, 3, 4, 5, 6] rfl (hj112 () trivial)
          ·
            exact tw_Rf.sub [] rfl (hj114 () trivial)
    refine r_ite (fun h115 => ?_) (fun h115 => ?_)
    ·
      refine r_tsw X dL_law_40 h115 (by decide) (by decide) rfl (tgt := 1096) (by decide) ?_
      refine r_aload_n X dL_law_1096 rfl 3 rfl ?_
      refine r_bd (fun r116 hr116 => ?_)
      refine tw_c_X11_chestIsLeft X dL_law_1097 _ tw_w657  hr116 (tw_le hfr rfl) (tw_le hlo rfl) hcs (Nat.le_of_ble_eq_true rfl) trivial ?_
      refine r_aload_n X dL_law_1100 rfl 2 rfl ?_
      refine r_bd (fun r117 hr117 => ?_)
      refine tw_c_X12_chestIsLeft X dL_law_1101 _ tw_w1673  hr117 (tw_le hfr rfl) (tw_le hlo rfl) hcs (Nat.le_of_ble_eq_true rfl) trivial ?_
      refine r_icmp_eq X dL_law_1104 (tgt := 1425) (by decide) ?_ ?_
      ·
        refine r_wid ?_
        exact hj2 r117.2 trivial
      ·
        refine r_iconst X dL_law_1107 (v := (0 : Int32)) (by decide) ?_
        exact fun hE => absurd (Option.some.inj hE) (by decide)
    refine r_ite (fun h118 => ?_) (fun h118 => ?_)
    ·
      refine r_tsw X dL_law_40 h118 (by decide) (by decide) rfl (tgt := 1109) (by decide) ?_
      refine r_aload_n X dL_law_1109 rfl 3 rfl ?_
      refine r_aload_n X dL_law_1110 rfl 4 rfl ?_
      refine r_iload X dL_law_1111 0 rfl ?_
      refine r_iconst X dL_law_1113 (v := (1 : Int32)) (by decide) ?_
      refine r_iadd X dL_law_1114 ?_
      refine r_sld X hX hbl hbB dL_law_1115 ?_
      refine r_aload_n X dL_law_1116 rfl 4 rfl ?_
      refine r_iload X dL_law_1117 0 rfl ?_
      refine r_iconst X dL_law_1119 (v := (2 : Int32)) (by decide) ?_
      refine r_iadd X dL_law_1120 ?_
      refine r_sld X hX hbl hbB dL_law_1121 ?_
      refine r_aload_n X dL_law_1122 rfl 1 rfl ?_
      refine r_bd (fun r119 hr119 => ?_)
      refine r_callSW (As := [.ref (tw_zB z + 0), .int (xs (Int32.toNatClampNeg (a0.1 + (1 : Int32)))), .int (xs (Int32.toNatClampNeg (a0.1 + (2 : Int32)))), .ref (tw_zB z + 1036)]) (st := []) X dL_law_1123 (tw_m_L_moveTo hst hr119) tw_y_L_moveTo _ tw_z1204 rfl ⟨rfl, rfl, tw_le hfr rfl, tw_le hlo rfl⟩ hc1 (Nat.le_of_ble_eq_true rfl) rfl ?_
      refine r_istore X.c1 dL_law_1126 (by decide) (LL := fun v120 => [(5, .int v120), (4, .int a0.1), (3, .ref (tw_zB z + 1036)), (2, .ref (tw_zB z + 442)), (1, .ref (tw_zB z + 0)), (0, .ref b)]) (fun _ => rfl) (fun v120 => ?_)
      refine r_aload_n X.c1 dL_law_1128 rfl 3 rfl ?_
      refine r_aload_n X.c1 dL_law_1129 rfl 5 rfl ?_
      refine r_iload X.c1 dL_law_1130 1 rfl ?_
      refine r_iconst X.c1 dL_law_1132 (v := (1 : Int32)) (by decide) ?_
      refine r_iadd X.c1 dL_law_1133 ?_
      refine r_sld X hX hbl hbB dL_law_1134 ?_
      refine r_aload_n X.c1 dL_law_1135 rfl 5 rfl ?_
      refine r_iload X.c1 dL_law_1136 1 rfl ?_
      refine r_iconst X.c1 dL_law_1138 (v := (2 : Int32)) (by decide) ?_
      refine r_iadd X.c1 dL_law_1139 ?_
      refine r_sld X hX hbl hbB dL_law_1140 ?_
      refine r_bd (fun r121 hr121 => ?_)
      refine tw_c_X12_moveTo X.c1 dL_law_1141 _ tw_w1677  hr121 (tw_le hfr rfl) (tw_le hlo rfl) hc1 (Nat.le_of_ble_eq_true rfl) trivial ?_
      refine r_istore X.c1 dL_law_1144 (by decide) (LL := fun v122 => [(6, .int v122), (5, .int v120), (4, .int a0.1), (3, .ref (tw_zB z + 1036)), (2, .ref (tw_zB z + 442)), (1, .ref (tw_zB z + 0)), (0, .ref b)]) (fun _ => rfl) (fun v122 => ?_)
      refine r_aload_n X.c1 dL_law_1146 rfl 4 rfl ?_
      refine r_bd (fun r123 hr123 => ?_)
      refine tw_c_X12_thrown X.c1 dL_law_1147 _ tw_w1347  hr123 (tw_le hfr rfl) (tw_le hlo rfl) hc1 (Nat.le_of_ble_eq_true rfl) trivial ?_
      refine r_iload X.c1 dL_law_1150 1 rfl ?_
      refine r_icmp_eq X.c1 dL_law_1152 (tgt := 1157) (by decide) ?_ ?_
      ·
        refine r_iload X.c1 dL_law_1157 1 rfl ?_
        refine r_jn (α := Unit) (σJ := fun a124 => r121.2) (pcJ := 1174) (LJ := fun a124 => [(4, .int a0.1), (3, .ref (tw_zB z + 1036)), (2, .ref (tw_zB z + 442)), (1, .ref (tw_zB z + 0)), (0, .ref b)]) (stJ := fun a124 => []) (ok := fun a124 => True) (fun a124 hoka124 => ?_) (fun j125 hj125 => ?_)
        ·
          refine r_goto X.c1 dL_law_1174 (tgt := 1425) (by decide) ?_
          exact hj2 r121.2 trivial
        refine r_if_ne X.c1 dL_law_1159 (tgt := 1174) (by decide) ?_ ?_
        ·
          exact tw_Rf.sub [2, 3, 4, 5, 6] rfl (hj125 () trivial)
        ·
          refine r_aload_n X.c1 dL_law_1162 rfl 3 rfl ?_
          refine r_iconst X.c1 dL_law_1163 (v := (0 : Int32)) (by decide) ?_
          refine r_lald (k := 1036) X.c1 dL_law_1164 tw_kc1036 ?_
          refine r_iload X.c1 dL_law_1165 0 rfl ?_
          refine r_i2l X.c1 dL_law_1167 ?_
          refine r_lcmp X.c1 dL_law_1168 ?_
          refine r_if_eq X.c1 dL_law_1169 (tgt := 1174) (by decide) ?_ ?_
          ·
            exact tw_Rf.sub [2, 3, 4, 5, 6] rfl (hj125 () trivial)
          ·
            refine r_iconst X.c1 dL_law_1172 (v := (0 : Int32)) (by decide) ?_
            exact fun hE => absurd (Option.some.inj hE) (by decide)
      ·
        refine r_iconst X.c1 dL_law_1155 (v := (0 : Int32)) (by decide) ?_
        exact fun hE => absurd (Option.some.inj hE) (by decide)
    refine r_ite (fun h126 => ?_) (fun h126 => ?_)
    ·
      refine r_tsw X dL_law_40 h126 (by decide) (by decide) rfl (tgt := 1177) (by decide) ?_
      refine r_aload_n X dL_law_1177 rfl 3 rfl ?_
      refine r_bd (fun r127 hr127 => ?_)
      refine tw_c_X11_dig X dL_law_1178 _ tw_w663  hr127 (tw_le hfr rfl) (tw_le hlo rfl) hcs (Nat.le_of_ble_eq_true rfl) trivial ?_
      refine r_aload_n X dL_law_1181 rfl 2 rfl ?_
      refine r_bd (fun r128 hr128 => ?_)
      refine tw_c_X12_dig X dL_law_1182 _ tw_w1681  hr128 (tw_le hfr rfl) (tw_le hlo rfl) hcs (Nat.le_of_ble_eq_true rfl) trivial ?_
      refine r_icmp_eq X dL_law_1185 (tgt := 1425) (by decide) ?_ ?_
      ·
        refine r_wid ?_
        exact hj2 r128.2 trivial
      ·
        refine r_iconst X dL_law_1188 (v := (0 : Int32)) (by decide) ?_
        exact fun hE => absurd (Option.some.inj hE) (by decide)
    refine r_ite (fun h129 => ?_) (fun h129 => ?_)
    ·
      refine r_tsw X dL_law_40 h129 (by decide) (by decide) rfl (tgt := 1190) (by decide) ?_
      refine r_aload_n X dL_law_1190 rfl 3 rfl ?_
      refine r_aload_n X dL_law_1191 rfl 4 rfl ?_
      refine r_iload X dL_law_1192 0 rfl ?_
      refine r_iconst X dL_law_1194 (v := (1 : Int32)) (by decide) ?_
      refine r_iadd X dL_law_1195 ?_
      refine r_sld X hX hbl hbB dL_law_1196 ?_
      refine r_aload_n X dL_law_1197 rfl 4 rfl ?_
      refine r_iload X dL_law_1198 0 rfl ?_
      refine r_iconst X dL_law_1200 (v := (2 : Int32)) (by decide) ?_
      refine r_iadd X dL_law_1201 ?_
      refine r_sld X hX hbl hbB dL_law_1202 ?_
      refine r_jn (α := Int32) (σJ := fun a130 => a0.2) (pcJ := 1211) (LJ := fun a130 => [(4, .int a0.1), (3, .ref (tw_zB z + 1036)), (2, .ref (tw_zB z + 442)), (1, .ref (tw_zB z + 0)), (0, .ref b)]) (stJ := fun a130 => [.int a130, .int (xs (Int32.toNatClampNeg (a0.1 + (1 : Int32)))), .ref (tw_zB z + 0)]) (ok := fun a130 => True) (fun a130 hoka130 => ?_) (fun j131 hj131 => ?_)
      ·
        refine r_aload_n X dL_law_1211 rfl 1 rfl ?_
        refine r_bd (fun r132 hr132 => ?_)
        refine r_callSW (As := [.ref (tw_zB z + 0), .int (xs (Int32.toNatClampNeg (a0.1 + (1 : Int32)))), .int a130, .ref (tw_zB z + 1036)]) (st := []) X dL_law_1212 (tw_m_L_use hst hr132) tw_y_L_use _ tw_z1211 rfl ⟨rfl, rfl, tw_le hfr rfl, tw_le hlo rfl⟩ hc1 (Nat.le_of_ble_eq_true rfl) rfl ?_
        refine r_istore X.c1 dL_law_1215 (by decide) (LL := fun v133 => [(5, .int v133), (4, .int a0.1), (3, .ref (tw_zB z + 1036)), (2, .ref (tw_zB z + 442)), (1, .ref (tw_zB z + 0)), (0, .ref b)]) (fun _ => rfl) (fun v133 => ?_)
        refine r_aload_n X.c1 dL_law_1217 rfl 3 rfl ?_
        refine r_aload_n X.c1 dL_law_1218 rfl 5 rfl ?_
        refine r_iload X.c1 dL_law_1219 1 rfl ?_
        refine r_iconst X.c1 dL_law_1221 (v := (1 : Int32)) (by decide) ?_
        refine r_iadd X.c1 dL_law_1222 ?_
        refine r_sld X hX hbl hbB dL_law_1223 ?_
        refine r_aload_n X.c1 dL_law_1224 rfl 5 rfl ?_
        refine r_iload X.c1 dL_law_1225 1 rfl ?_
        refine r_iconst X.c1 dL_law_1227 (v := (2 : Int32)) (by decide) ?_
        refine r_iadd X.c1 dL_law_1228 ?_
        refine r_sld X hX hbl hbB dL_law_1229 ?_
        refine r_jn (α := Int32) (σJ := fun a134 => r132.2) (pcJ := 1238) (LJ := fun a134 => [(5, .int v133), (4, .int a0.1), (3, .ref (tw_zB z + 1036)), (2, .ref (tw_zB z + 442)), (1, .ref (tw_zB z + 0)), (0, .ref b)]) (stJ := fun a134 => [.int a134, .int (xs (Int32.toNatClampNeg (a0.1 + (1 : Int32)))), .ref (tw_zB z + 442)]) (ok := fun a134 => True) (fun a134 hoka134 => ?_) (fun j135 hj135 => ?_)
        ·
          refine r_bd (fun r136 hr136 => ?_)
          refine tw_c_X12_use X.c1 dL_law_1238 _ tw_w1685  hr136 (tw_le hfr rfl) (tw_le hlo rfl) hc1 (Nat.le_of_ble_eq_true rfl) trivial ?_
          refine r_istore X.c1 dL_law_1241 (by decide) (LL := fun v137 => [(6, .int v137), (5, .int v133), (4, .int a0.1), (3, .ref (tw_zB z + 1036)), (2, .ref (tw_zB z + 442)), (1, .ref (tw_zB z + 0)), (0, .ref b)]) (fun _ => rfl) (fun v137 => ?_)
          refine r_aload_n X.c1 dL_law_1243 rfl 4 rfl ?_
          refine r_bd (fun r138 hr138 => ?_)
          refine tw_c_X12_thrown X.c1 dL_law_1244 _ tw_w1347  hr138 (tw_le hfr rfl) (tw_le hlo rfl) hc1 (Nat.le_of_ble_eq_true rfl) trivial ?_
          refine r_iload X.c1 dL_law_1247 1 rfl ?_
          refine r_icmp_eq X.c1 dL_law_1249 (tgt := 1254) (by decide) ?_ ?_
          ·
            refine r_iload X.c1 dL_law_1254 1 rfl ?_
            refine r_jn (α := Unit) (σJ := fun a139 => r136.2) (pcJ := 1271) (LJ := fun a139 => [(4, .int a0.1), (3, .ref (tw_zB z + 1036)), (2, .ref (tw_zB z + 442)), (1, .ref (tw_zB z + 0)), (0, .ref b)]) (stJ := fun a139 => []) (ok := fun a139 => True) (fun a139 hoka139 => ?_) (fun j140 hj140 => ?_)
            ·
              refine r_goto X.c1 dL_law_1271 (tgt := 1425) (by decide) ?_
              exact hj2 r136.2 trivial
            refine r_if_ne X.c1 dL_law_1256 (tgt := 1271) (by decide) ?_ ?_
            ·
              exact tw_Rf.sub [2, 3, 4, 5, 6] rfl (hj140 () trivial)
            ·
              refine r_aload_n X.c1 dL_law_1259 rfl 3 rfl ?_
              refine r_iconst X.c1 dL_law_1260 (v := (0 : Int32)) (by decide) ?_
              refine r_lald (k := 1036) X.c1 dL_law_1261 tw_kc1036 ?_
              refine r_iload X.c1 dL_law_1262 0 rfl ?_
              refine r_i2l X.c1 dL_law_1264 ?_
              refine r_lcmp X.c1 dL_law_1265 ?_
              refine r_if_eq X.c1 dL_law_1266 (tgt := 1271) (by decide) ?_ ?_
              ·
                exact tw_Rf.sub [2, 3, 4, 5, 6] rfl (hj140 () trivial)
              ·
                refine r_iconst X.c1 dL_law_1269 (v := (0 : Int32)) (by decide) ?_
                exact fun hE => absurd (Option.some.inj hE) (by decide)
          ·
            refine r_iconst X.c1 dL_law_1252 (v := (0 : Int32)) (by decide) ?_
            exact fun hE => absurd (Option.some.inj hE) (by decide)
        refine r_if_eq X.c1 dL_law_1230 (tgt := 1237) (by decide) ?_ ?_
        ·
          refine r_iconst X.c1 dL_law_1237 (v := (0 : Int32)) (by decide) ?_
          exact hj135 (0 : Int32) trivial
        ·
          refine r_iconst X.c1 dL_law_1233 (v := (1 : Int32)) (by decide) ?_
          refine r_goto X.c1 dL_law_1234 (tgt := 1238) (by decide) ?_
          exact hj135 (1 : Int32) trivial
      refine r_if_eq X dL_law_1203 (tgt := 1210) (by decide) ?_ ?_
      ·
        refine r_iconst X dL_law_1210 (v := (0 : Int32)) (by decide) ?_
        exact hj131 (0 : Int32) trivial
      ·
        refine r_iconst X dL_law_1206 (v := (1 : Int32)) (by decide) ?_
        refine r_goto X dL_law_1207 (tgt := 1211) (by decide) ?_
        exact hj131 (1 : Int32) trivial
    refine r_ite (fun h141 => ?_) (fun h141 => ?_)
    ·
      refine r_tsw X dL_law_40 h141 (by decide) (by decide) rfl (tgt := 1274) (by decide) ?_
      refine r_aload_n X dL_law_1274 rfl 3 rfl ?_
      refine r_aload_n X dL_law_1275 rfl 4 rfl ?_
      refine r_iload X dL_law_1276 0 rfl ?_
      refine r_iconst X dL_law_1278 (v := (1 : Int32)) (by decide) ?_
      refine r_iadd X dL_law_1279 ?_
      refine r_sld X hX hbl hbB dL_law_1280 ?_
      refine r_aload_n X dL_law_1281 rfl 1 rfl ?_
      refine r_bd (fun r142 hr142 => ?_)
      refine r_callSW (As := [.ref (tw_zB z + 0), .int (xs (Int32.toNatClampNeg (a0.1 + (1 : Int32)))), .ref (tw_zB z + 1036)]) (st := []) X dL_law_1282 (tw_m_L_hide hst hr142) tw_y_L_hide _ tw_z1219 rfl ⟨rfl, rfl, tw_le hfr rfl, tw_le hlo rfl⟩ hc1 (Nat.le_of_ble_eq_true rfl) rfl ?_
      refine r_istore X.c1 dL_law_1285 (by decide) (LL := fun v143 => [(5, .int v143), (4, .int a0.1), (3, .ref (tw_zB z + 1036)), (2, .ref (tw_zB z + 442)), (1, .ref (tw_zB z + 0)), (0, .ref b)]) (fun _ => rfl) (fun v143 => ?_)
      refine r_aload_n X.c1 dL_law_1287 rfl 3 rfl ?_
      refine r_aload_n X.c1 dL_law_1288 rfl 5 rfl ?_
      refine r_iload X.c1 dL_law_1289 1 rfl ?_
      refine r_iconst X.c1 dL_law_1291 (v := (1 : Int32)) (by decide) ?_
      refine r_iadd X.c1 dL_law_1292 ?_
      refine r_sld X hX hbl hbB dL_law_1293 ?_
      refine r_bd (fun r144 hr144 => ?_)
      refine tw_c_X12_hide X.c1 dL_law_1294 _ tw_w1689  hr144 (tw_le hfr rfl) (tw_le hlo rfl) hc1 (Nat.le_of_ble_eq_true rfl) trivial ?_
      refine r_istore X.c1 dL_law_1297 (by decide) (LL := fun v145 => [(6, .int v145), (5, .int v143), (4, .int a0.1), (3, .ref (tw_zB z + 1036)), (2, .ref (tw_zB z + 442)), (1, .ref (tw_zB z + 0)), (0, .ref b)]) (fun _ => rfl) (fun v145 => ?_)
      refine r_aload_n X.c1 dL_law_1299 rfl 4 rfl ?_
      refine r_bd (fun r146 hr146 => ?_)
      refine tw_c_X12_thrown X.c1 dL_law_1300 _ tw_w1347  hr146 (tw_le hfr rfl) (tw_le hlo rfl) hc1 (Nat.le_of_ble_eq_true rfl) trivial ?_
      refine r_iload X.c1 dL_law_1303 1 rfl ?_
      refine r_icmp_eq X.c1 dL_law_1305 (tgt := 1310) (by decide) ?_ ?_
      ·
        refine r_iload X.c1 dL_law_1310 1 rfl ?_
        refine r_jn (α := Unit) (σJ := fun a147 => r144.2) (pcJ := 1327) (LJ := fun a147 => [(4, .int a0.1), (3, .ref (tw_zB z + 1036)), (2, .ref (tw_zB z + 442)), (1, .ref (tw_zB z + 0)), (0, .ref b)]) (stJ := fun a147 => []) (ok := fun a147 => True) (fun a147 hoka147 => ?_) (fun j148 hj148 => ?_)
        ·
          refine r_goto X.c1 dL_law_1327 (tgt := 1425) (by decide) ?_
          exact hj2 r144.2 trivial
        refine r_if_ne X.c1 dL_law_1312 (tgt := 1327) (by decide) ?_ ?_
        ·
          exact tw_Rf.sub [2, 3, 4, 5, 6] rfl (hj148 () trivial)
        ·
          refine r_aload_n X.c1 dL_law_1315 rfl 3 rfl ?_
          refine r_iconst X.c1 dL_law_1316 (v := (0 : Int32)) (by decide) ?_
          refine r_lald (k := 1036) X.c1 dL_law_1317 tw_kc1036 ?_
          refine r_iload X.c1 dL_law_1318 0 rfl ?_
          refine r_i2l X.c1 dL_law_1320 ?_
          refine r_lcmp X.c1 dL_law_1321 ?_
          refine r_if_eq X.c1 dL_law_1322 (tgt := 1327) (by decide) ?_ ?_
          ·
            exact tw_Rf.sub [2, 3, 4, 5, 6] rfl (hj148 () trivial)
          ·
            refine r_iconst X.c1 dL_law_1325 (v := (0 : Int32)) (by decide) ?_
            exact fun hE => absurd (Option.some.inj hE) (by decide)
      ·
        refine r_iconst X.c1 dL_law_1308 (v := (0 : Int32)) (by decide) ?_
        exact fun hE => absurd (Option.some.inj hE) (by decide)
    refine r_ite (fun h149 => ?_) (fun h149 => ?_)
    ·
      refine r_tsw X dL_law_40 h149 (by decide) (by decide) rfl (tgt := 1330) (by decide) ?_
      refine r_aload_n X dL_law_1330 rfl 3 rfl ?_
      refine r_aload_n X dL_law_1331 rfl 4 rfl ?_
      refine r_iload X dL_law_1332 0 rfl ?_
      refine r_iconst X dL_law_1334 (v := (1 : Int32)) (by decide) ?_
      refine r_iadd X dL_law_1335 ?_
      refine r_sld X hX hbl hbB dL_law_1336 ?_
      refine r_aload_n X dL_law_1337 rfl 4 rfl ?_
      refine r_iload X dL_law_1338 0 rfl ?_
      refine r_iconst X dL_law_1340 (v := (2 : Int32)) (by decide) ?_
      refine r_iadd X dL_law_1341 ?_
      refine r_sld X hX hbl hbB dL_law_1342 ?_
      refine r_aload_n X dL_law_1343 rfl 1 rfl ?_
      refine r_bd (fun r150 hr150 => ?_)
      refine r_callSW (As := [.ref (tw_zB z + 0), .int (xs (Int32.toNatClampNeg (a0.1 + (1 : Int32)))), .int (xs (Int32.toNatClampNeg (a0.1 + (2 : Int32)))), .ref (tw_zB z + 1036)]) (st := []) X dL_law_1344 (tw_m_L_turn hst hr150) tw_y_L_turn _ tw_z1228 rfl ⟨rfl, rfl, tw_le hfr rfl, tw_le hlo rfl⟩ hc1 (Nat.le_of_ble_eq_true rfl) rfl ?_
      refine r_istore X.c1 dL_law_1347 (by decide) (LL := fun v151 => [(5, .int v151), (4, .int a0.1), (3, .ref (tw_zB z + 1036)), (2, .ref (tw_zB z + 442)), (1, .ref (tw_zB z + 0)), (0, .ref b)]) (fun _ => rfl) (fun v151 => ?_)
      refine r_aload_n X.c1 dL_law_1349 rfl 3 rfl ?_
      refine r_aload_n X.c1 dL_law_1350 rfl 5 rfl ?_
      refine r_iload X.c1 dL_law_1351 1 rfl ?_
      refine r_iconst X.c1 dL_law_1353 (v := (1 : Int32)) (by decide) ?_
      refine r_iadd X.c1 dL_law_1354 ?_
      refine r_sld X hX hbl hbB dL_law_1355 ?_
      refine r_aload_n X.c1 dL_law_1356 rfl 5 rfl ?_
      refine r_iload X.c1 dL_law_1357 1 rfl ?_
      refine r_iconst X.c1 dL_law_1359 (v := (2 : Int32)) (by decide) ?_
      refine r_iadd X.c1 dL_law_1360 ?_
      refine r_sld X hX hbl hbB dL_law_1361 ?_
      refine r_bd (fun r152 hr152 => ?_)
      refine tw_c_X12_turn X.c1 dL_law_1362 _ tw_w1693  hr152 (tw_le hfr rfl) (tw_le hlo rfl) hc1 (Nat.le_of_ble_eq_true rfl) trivial ?_
      refine r_istore X.c1 dL_law_1365 (by decide) (LL := fun v153 => [(6, .int v153), (5, .int v151), (4, .int a0.1), (3, .ref (tw_zB z + 1036)), (2, .ref (tw_zB z + 442)), (1, .ref (tw_zB z + 0)), (0, .ref b)]) (fun _ => rfl) (fun v153 => ?_)
      refine r_aload_n X.c1 dL_law_1367 rfl 4 rfl ?_
      refine r_bd (fun r154 hr154 => ?_)
      refine tw_c_X12_thrown X.c1 dL_law_1368 _ tw_w1347  hr154 (tw_le hfr rfl) (tw_le hlo rfl) hc1 (Nat.le_of_ble_eq_true rfl) trivial ?_
      refine r_iload X.c1 dL_law_1371 1 rfl ?_
      refine r_icmp_eq X.c1 dL_law_1373 (tgt := 1378) (by decide) ?_ ?_
      ·
        refine r_iload X.c1 dL_law_1378 1 rfl ?_
        refine r_jn (α := Unit) (σJ := fun a155 => r152.2) (pcJ := 1395) (LJ := fun a155 => [(4, .int a0.1), (3, .ref (tw_zB z + 1036)), (2, .ref (tw_zB z + 442)), (1, .ref (tw_zB z + 0)), (0, .ref b)]) (stJ := fun a155 => []) (ok := fun a155 => True) (fun a155 hoka155 => ?_) (fun j156 hj156 => ?_)
        ·
          refine r_goto X.c1 dL_law_1395 (tgt := 1425) (by decide) ?_
          exact hj2 r152.2 trivial
        refine r_if_ne X.c1 dL_law_1380 (tgt := 1395) (by decide) ?_ ?_
        ·
          exact tw_Rf.sub [2, 3, 4, 5, 6] rfl (hj156 () trivial)
        ·
          refine r_aload_n X.c1 dL_law_1383 rfl 3 rfl ?_
          refine r_iconst X.c1 dL_law_1384 (v := (0 : Int32)) (by decide) ?_
          refine r_lald (k := 1036) X.c1 dL_law_1385 tw_kc1036 ?_
          refine r_iload X.c1 dL_law_1386 0 rfl ?_
          refine r_i2l X.c1 dL_law_1388 ?_
          refine r_lcmp X.c1 dL_law_1389 ?_
          refine r_if_eq X.c1 dL_law_1390 (tgt := 1395) (by decide) ?_ ?_
          ·
            exact tw_Rf.sub [2, 3, 4, 5, 6] rfl (hj156 () trivial)
          ·
            refine r_iconst X.c1 dL_law_1393 (v := (0 : Int32)) (by decide) ?_
            exact fun hE => absurd (Option.some.inj hE) (by decide)
      ·
        refine r_iconst X.c1 dL_law_1376 (v := (0 : Int32)) (by decide) ?_
        exact fun hE => absurd (Option.some.inj hE) (by decide)
    refine r_ite (fun h157 => ?_) (fun h157 => ?_)
    ·
      refine r_tsw X dL_law_40 h157 (by decide) (by decide) rfl (tgt := 1398) (by decide) ?_
      refine r_aload_n X dL_law_1398 rfl 3 rfl ?_
      refine r_bd (fun r158 hr158 => ?_)
      refine tw_c_X11_undo X dL_law_1399 _ tw_w693  hr158 (tw_le hfr rfl) (tw_le hlo rfl) hcs (Nat.le_of_ble_eq_true rfl) trivial ?_
      refine r_aload_n X dL_law_1402 rfl 2 rfl ?_
      refine r_bd (fun r159 hr159 => ?_)
      refine tw_c_X12_undo X dL_law_1403 _ tw_w1697  hr159 (tw_le hfr rfl) (tw_le hlo rfl) hcs (Nat.le_of_ble_eq_true rfl) trivial ?_
      refine r_icmp_eq X dL_law_1406 (tgt := 1425) (by decide) ?_ ?_
      ·
        refine r_wid ?_
        exact hj2 r159.2 trivial
      ·
        refine r_iconst X dL_law_1409 (v := (0 : Int32)) (by decide) ?_
        exact fun hE => absurd (Option.some.inj hE) (by decide)
    refine r_ite (fun h160 => ?_) (fun h160 => ?_)
    ·
      refine r_tsw X dL_law_40 h160 (by decide) (by decide) rfl (tgt := 1411) (by decide) ?_
      refine r_aload_n X dL_law_1411 rfl 3 rfl ?_
      refine r_bd (fun r161 hr161 => ?_)
      refine tw_c_X11_checksum X dL_law_1412 _ tw_w753  hr161 (tw_le hfr rfl) (tw_le hlo rfl) hcs (Nat.le_of_ble_eq_true rfl) trivial ?_
      refine r_aload_n X dL_law_1415 rfl 2 rfl ?_
      refine r_bd (fun r162 hr162 => ?_)
      refine tw_c_X12_checksum X dL_law_1416 _ tw_w1701  hr162 (tw_le hfr rfl) (tw_le hlo rfl) hcs (Nat.le_of_ble_eq_true rfl) trivial ?_
      refine r_lcmp X dL_law_1419 ?_
      refine r_if_eq X dL_law_1420 (tgt := 1425) (by decide) ?_ ?_
      ·
        refine r_wid ?_
        exact hj2 r162.2 trivial
      ·
        refine r_iconst X dL_law_1423 (v := (0 : Int32)) (by decide) ?_
        exact fun hE => absurd (Option.some.inj hE) (by decide)
    refine r_tswD X dL_law_40 (tgt := 1425) (tw_out23 h4 h7 h15 h18 h26 h34 h42 h50 h60 h68 h76 h84 h92 h95 h98 h106 h115 h118 h126 h129 h141 h149 h157 h160) (by decide) ?_
    refine r_wid ?_
    exact hj2 a0.2 trivial
