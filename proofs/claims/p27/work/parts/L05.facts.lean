theorem dw_x35 : lw_tbl[35]? = some ((Jvm.Cond.initialized "TreasureWalkLaw")) := by decide +kernel
theorem dw_x749 : lw_tbl[749]? = some ((Jvm.Cond.static ({ cls := "TreasureWalkLaw", name := "load", desc := "(LTreasureWalk;I)I" } : Jvm.MethodName))) := by decide +kernel
theorem dw_x750 : lw_tbl[750]? = some ((Jvm.Cond.codeWith ({ cls := "TreasureWalkLaw", name := "load", desc := "(LTreasureWalk;I)I" } : Jvm.MethodName) method_7_code (3 : Nat) (Option.some Jvm.ClassFile.FieldType.int) [((0 : Nat), (5 : Nat), (6 : Nat), (40 : Nat))])) := by decide +kernel
theorem dw_x751 : lw_tbl[751]? = some ((Jvm.Cond.classLink "TreasureWalkLaw" (40 : Nat) "java/lang/IllegalArgumentException")) := by decide +kernel
theorem dw_x752 : lw_tbl[752]? = some ((Jvm.Cond.methodLink "TreasureWalkLaw" (37 : Nat) ({ cls := "TreasureWalk", name := "load", desc := "(I)I" } : Jvm.MethodName))) := by decide +kernel
theorem dw_x758 : lw_tbl[758]? = some ((Jvm.Cond.castable "java/lang/IllegalArgumentException" "java/lang/IllegalArgumentException")) := by decide +kernel
theorem dw_x1033 : lw_tbl[1033]? = some ((Jvm.Cond.constant "TreasureWalkLaw" (42 : Nat) (-2000000098 : Int32))) := by decide +kernel
theorem dw_x1035 : lw_tbl[1035]? = some ((Jvm.Cond.static ({ cls := "TreasureWalkLaw", name := "pace", desc := "(LTreasureWalk;III)I" } : Jvm.MethodName))) := by decide +kernel
theorem dw_x1036 : lw_tbl[1036]? = some ((Jvm.Cond.codeWith ({ cls := "TreasureWalkLaw", name := "pace", desc := "(LTreasureWalk;III)I" } : Jvm.MethodName) method_10_code (5 : Nat) (Option.some Jvm.ClassFile.FieldType.int) [((0 : Nat), (7 : Nat), (8 : Nat), (50 : Nat)), ((0 : Nat), (7 : Nat), (13 : Nat), (40 : Nat))])) := by decide +kernel
theorem dw_x1037 : lw_tbl[1037]? = some ((Jvm.Cond.classLink "TreasureWalkLaw" (50 : Nat) "java/lang/IndexOutOfBoundsException")) := by decide +kernel
theorem dw_x1038 : lw_tbl[1038]? = some ((Jvm.Cond.methodLink "TreasureWalkLaw" (53 : Nat) ({ cls := "TreasureWalk", name := "pace", desc := "(III)I" } : Jvm.MethodName))) := by decide +kernel
theorem dw_x1048 : lw_tbl[1048]? = some ((Jvm.Cond.castable "java/lang/IndexOutOfBoundsException" "java/lang/IndexOutOfBoundsException")) := by decide +kernel
theorem dw_x1070 : lw_tbl[1070]? = some ((Jvm.Cond.constant "TreasureWalkLaw" (52 : Nat) (-2000000097 : Int32))) := by decide +kernel
theorem dw_x1072 : lw_tbl[1072]? = some ((Jvm.Cond.static ({ cls := "TreasureWalkLaw", name := "walk", desc := "(LTreasureWalk;IIII)I" } : Jvm.MethodName))) := by decide +kernel
theorem dw_x1073 : lw_tbl[1073]? = some ((Jvm.Cond.codeWith ({ cls := "TreasureWalkLaw", name := "walk", desc := "(LTreasureWalk;IIII)I" } : Jvm.MethodName) method_14_code (6 : Nat) (Option.some Jvm.ClassFile.FieldType.int) [((0 : Nat), (9 : Nat), (10 : Nat), (50 : Nat)), ((0 : Nat), (9 : Nat), (15 : Nat), (71 : Nat))])) := by decide +kernel
theorem dw_x1074 : lw_tbl[1074]? = some ((Jvm.Cond.classLink "TreasureWalkLaw" (71 : Nat) "java/util/NoSuchElementException")) := by decide +kernel
theorem dw_x1075 : lw_tbl[1075]? = some ((Jvm.Cond.methodLink "TreasureWalkLaw" (67 : Nat) ({ cls := "TreasureWalk", name := "walk", desc := "(IIII)I" } : Jvm.MethodName))) := by decide +kernel
theorem dw_x1092 : lw_tbl[1092]? = some ((Jvm.Cond.castable "java/util/NoSuchElementException" "java/util/NoSuchElementException")) := by decide +kernel
theorem dw_x1126 : lw_tbl[1126]? = some ((Jvm.Cond.constant "TreasureWalkLaw" (73 : Nat) (-2000000100 : Int32))) := by decide +kernel
theorem dw_x1128 : lw_tbl[1128]? = some ((Jvm.Cond.static ({ cls := "TreasureWalkLaw", name := "starts", desc := "(LTreasureWalk;III)I" } : Jvm.MethodName))) := by decide +kernel
theorem dw_x1129 : lw_tbl[1129]? = some ((Jvm.Cond.codeWith ({ cls := "TreasureWalkLaw", name := "starts", desc := "(LTreasureWalk;III)I" } : Jvm.MethodName) method_15_code (5 : Nat) (Option.some Jvm.ClassFile.FieldType.int) [((0 : Nat), (7 : Nat), (8 : Nat), (50 : Nat))])) := by decide +kernel
theorem dw_x1130 : lw_tbl[1130]? = some ((Jvm.Cond.methodLink "TreasureWalkLaw" (74 : Nat) ({ cls := "TreasureWalk", name := "starts", desc := "(III)I" } : Jvm.MethodName))) := by decide +kernel
theorem dw_x1139 : lw_tbl[1139]? = some ((Jvm.Cond.static ({ cls := "TreasureWalkLaw", name := "distance", desc := "(LTreasureWalk;II)I" } : Jvm.MethodName))) := by decide +kernel
theorem dw_x1140 : lw_tbl[1140]? = some ((Jvm.Cond.codeWith ({ cls := "TreasureWalkLaw", name := "distance", desc := "(LTreasureWalk;II)I" } : Jvm.MethodName) method_16_code (4 : Nat) (Option.some Jvm.ClassFile.FieldType.int) [((0 : Nat), (6 : Nat), (7 : Nat), (50 : Nat))])) := by decide +kernel
theorem dw_x1141 : lw_tbl[1141]? = some ((Jvm.Cond.methodLink "TreasureWalkLaw" (77 : Nat) ({ cls := "TreasureWalk", name := "distance", desc := "(II)I" } : Jvm.MethodName))) := by decide +kernel
theorem dw_x1167 : lw_tbl[1167]? = some ((Jvm.Cond.static ({ cls := "TreasureWalkLaw", name := "part", desc := "(LTreasureWalk;II)I" } : Jvm.MethodName))) := by decide +kernel
theorem dw_x1168 : lw_tbl[1168]? = some ((Jvm.Cond.codeWith ({ cls := "TreasureWalkLaw", name := "part", desc := "(LTreasureWalk;II)I" } : Jvm.MethodName) method_17_code (4 : Nat) (Option.some Jvm.ClassFile.FieldType.int) [((0 : Nat), (6 : Nat), (7 : Nat), (50 : Nat))])) := by decide +kernel
theorem dw_x1169 : lw_tbl[1169]? = some ((Jvm.Cond.methodLink "TreasureWalkLaw" (80 : Nat) ({ cls := "TreasureWalk", name := "part", desc := "(II)I" } : Jvm.MethodName))) := by decide +kernel
theorem dw_x1201 : lw_tbl[1201]? = some ((Jvm.Cond.static ({ cls := "TreasureWalkLaw", name := "moveTo", desc := "(LTreasureWalk;II)I" } : Jvm.MethodName))) := by decide +kernel
theorem dw_x1202 : lw_tbl[1202]? = some ((Jvm.Cond.codeWith ({ cls := "TreasureWalkLaw", name := "moveTo", desc := "(LTreasureWalk;II)I" } : Jvm.MethodName) method_18_code (4 : Nat) (Option.some Jvm.ClassFile.FieldType.int) [((0 : Nat), (6 : Nat), (7 : Nat), (50 : Nat))])) := by decide +kernel
theorem dw_x1203 : lw_tbl[1203]? = some ((Jvm.Cond.methodLink "TreasureWalkLaw" (83 : Nat) ({ cls := "TreasureWalk", name := "moveTo", desc := "(II)I" } : Jvm.MethodName))) := by decide +kernel
theorem dw_x1208 : lw_tbl[1208]? = some ((Jvm.Cond.static ({ cls := "TreasureWalkLaw", name := "use", desc := "(LTreasureWalk;IZ)I" } : Jvm.MethodName))) := by decide +kernel
theorem dw_x1209 : lw_tbl[1209]? = some ((Jvm.Cond.codeWith ({ cls := "TreasureWalkLaw", name := "use", desc := "(LTreasureWalk;IZ)I" } : Jvm.MethodName) method_19_code (4 : Nat) (Option.some Jvm.ClassFile.FieldType.int) [((0 : Nat), (6 : Nat), (7 : Nat), (50 : Nat))])) := by decide +kernel
theorem dw_x1210 : lw_tbl[1210]? = some ((Jvm.Cond.methodLink "TreasureWalkLaw" (86 : Nat) ({ cls := "TreasureWalk", name := "use", desc := "(IZ)I" } : Jvm.MethodName))) := by decide +kernel
theorem dw_x1218 : lw_tbl[1218]? = some ((Jvm.Cond.static ({ cls := "TreasureWalkLaw", name := "hide", desc := "(LTreasureWalk;I)I" } : Jvm.MethodName))) := by decide +kernel
theorem dw_x1219 : lw_tbl[1219]? = some ((Jvm.Cond.codeWith ({ cls := "TreasureWalkLaw", name := "hide", desc := "(LTreasureWalk;I)I" } : Jvm.MethodName) method_20_code (3 : Nat) (Option.some Jvm.ClassFile.FieldType.int) [((0 : Nat), (5 : Nat), (6 : Nat), (40 : Nat))])) := by decide +kernel
theorem dw_x1220 : lw_tbl[1220]? = some ((Jvm.Cond.methodLink "TreasureWalkLaw" (90 : Nat) ({ cls := "TreasureWalk", name := "hide", desc := "(I)I" } : Jvm.MethodName))) := by decide +kernel
theorem dw_x1227 : lw_tbl[1227]? = some ((Jvm.Cond.static ({ cls := "TreasureWalkLaw", name := "turn", desc := "(LTreasureWalk;II)I" } : Jvm.MethodName))) := by decide +kernel
theorem dw_x1228 : lw_tbl[1228]? = some ((Jvm.Cond.codeWith ({ cls := "TreasureWalkLaw", name := "turn", desc := "(LTreasureWalk;II)I" } : Jvm.MethodName) method_21_code (4 : Nat) (Option.some Jvm.ClassFile.FieldType.int) [((0 : Nat), (6 : Nat), (7 : Nat), (50 : Nat)), ((0 : Nat), (6 : Nat), (11 : Nat), (40 : Nat))])) := by decide +kernel
theorem dw_x1229 : lw_tbl[1229]? = some ((Jvm.Cond.methodLink "TreasureWalkLaw" (93 : Nat) ({ cls := "TreasureWalk", name := "turn", desc := "(II)I" } : Jvm.MethodName))) := by decide +kernel
theorem dw_x1596 : lw_tbl[1596]? = some ((Jvm.Cond.static ({ cls := "TreasureWalkLaw", name := "state", desc := "(LTreasureWalk;I)I" } : Jvm.MethodName))) := by decide +kernel
theorem dw_x1597 : lw_tbl[1597]? = some ((Jvm.Cond.codeWith ({ cls := "TreasureWalkLaw", name := "state", desc := "(LTreasureWalk;I)I" } : Jvm.MethodName) method_8_code (3 : Nat) (Option.some Jvm.ClassFile.FieldType.int) [((0 : Nat), (5 : Nat), (6 : Nat), (40 : Nat))])) := by decide +kernel
theorem dw_x1598 : lw_tbl[1598]? = some ((Jvm.Cond.methodLink "TreasureWalkLaw" (43 : Nat) ({ cls := "TreasureWalk", name := "state", desc := "(I)I" } : Jvm.MethodName))) := by decide +kernel
theorem dw_x1600 : lw_tbl[1600]? = some ((Jvm.Cond.static ({ cls := "TreasureWalkLaw", name := "cell", desc := "(LTreasureWalk;II)I" } : Jvm.MethodName))) := by decide +kernel
theorem dw_x1601 : lw_tbl[1601]? = some ((Jvm.Cond.codeWith ({ cls := "TreasureWalkLaw", name := "cell", desc := "(LTreasureWalk;II)I" } : Jvm.MethodName) method_9_code (4 : Nat) (Option.some Jvm.ClassFile.FieldType.int) [((0 : Nat), (6 : Nat), (7 : Nat), (50 : Nat))])) := by decide +kernel
theorem dw_x1602 : lw_tbl[1602]? = some ((Jvm.Cond.methodLink "TreasureWalkLaw" (46 : Nat) ({ cls := "TreasureWalk", name := "cell", desc := "(II)I" } : Jvm.MethodName))) := by decide +kernel
theorem dw_x1604 : lw_tbl[1604]? = some ((Jvm.Cond.static ({ cls := "TreasureWalkLaw", name := "reached", desc := "(LTreasureWalk;II)I" } : Jvm.MethodName))) := by decide +kernel
theorem dw_x1605 : lw_tbl[1605]? = some ((Jvm.Cond.codeWith ({ cls := "TreasureWalkLaw", name := "reached", desc := "(LTreasureWalk;II)I" } : Jvm.MethodName) method_11_code (4 : Nat) (Option.some Jvm.ClassFile.FieldType.int) [((0 : Nat), (6 : Nat), (7 : Nat), (50 : Nat)), ((0 : Nat), (6 : Nat), (11 : Nat), (40 : Nat))])) := by decide +kernel
theorem dw_x1606 : lw_tbl[1606]? = some ((Jvm.Cond.methodLink "TreasureWalkLaw" (57 : Nat) ({ cls := "TreasureWalk", name := "reached", desc := "(II)I" } : Jvm.MethodName))) := by decide +kernel
theorem dw_x1610 : lw_tbl[1610]? = some ((Jvm.Cond.static ({ cls := "TreasureWalkLaw", name := "why", desc := "(LTreasureWalk;II)I" } : Jvm.MethodName))) := by decide +kernel
theorem dw_x1611 : lw_tbl[1611]? = some ((Jvm.Cond.codeWith ({ cls := "TreasureWalkLaw", name := "why", desc := "(LTreasureWalk;II)I" } : Jvm.MethodName) method_13_code (4 : Nat) (Option.some Jvm.ClassFile.FieldType.int) [((0 : Nat), (6 : Nat), (7 : Nat), (50 : Nat))])) := by decide +kernel
theorem dw_x1612 : lw_tbl[1612]? = some ((Jvm.Cond.methodLink "TreasureWalkLaw" (64 : Nat) ({ cls := "TreasureWalk", name := "why", desc := "(II)I" } : Jvm.MethodName))) := by decide +kernel
def dw_f12 (b : Nat) (Y : dw_S) (k : Nat) : List Value := [dw_v b (dw_r Y k 0), dw_v b (dw_r Y k 1), .int (dw_i Y k 2)]
theorem dw_F12 {b k : Nat} {C : Nat → ClassId} {Y : dw_S} (h : dw_k Y k = 12) : dw_E b C Y k = .inr (12, dw_f12 b Y k) := dw_E12 h
theorem dw_in12 : ∀ w ∈ u_ws RX12 TX12 3, w ∈ tw_AW := by decide +kernel
theorem dw_df12 : ∀ j, j < 3 → defaultValue (tyX12 j) = vp_V [.null, .null, .int 0] j := by
  intro j hj
  have := List.mem_range.mpr hj
  revert j
  decide +kernel
theorem dw_fr12 {b a : Nat} {C : Nat → ClassId} {Y : dw_S} : dw_E b C (dw_nw Y a 12 0 (fun _ => 0) (fun _ => none)) a = .inr (12, [.null, .null, .int 0]) := by
  rw [dw_E12 dw_nw_k, dw_nw_i, dw_nw_r]
  rfl
theorem dw_p12_0 {b k : Nat} {C : Nat → ClassId} {Y : dw_S} {r : Option Nat} (h : dw_k Y k = 12) : dw_E b C (dw_pr Y k 0 r) k = .inr (12, (dw_f12 b Y k).set 0 (dw_v b r)) := by
  rw [dw_E12 (Y := dw_pr Y k 0 r) h]
  simp [dw_f12, dw_i, dw_r, dw_pr, va_up]
theorem dw_p12_1 {b k : Nat} {C : Nat → ClassId} {Y : dw_S} {r : Option Nat} (h : dw_k Y k = 12) : dw_E b C (dw_pr Y k 1 r) k = .inr (12, (dw_f12 b Y k).set 1 (dw_v b r)) := by
  rw [dw_E12 (Y := dw_pr Y k 1 r) h]
  simp [dw_f12, dw_i, dw_r, dw_pr, va_up]
theorem dw_p12_2 {b k : Nat} {C : Nat → ClassId} {Y : dw_S} {x : Int32} (h : dw_k Y k = 12) : dw_E b C (dw_pi Y k 2 x) k = .inr (12, (dw_f12 b Y k).set 2 (.int x)) := by
  rw [dw_E12 (Y := dw_pi Y k 2 x) h]
  simp [dw_f12, dw_i, dw_r, dw_pi, tw_up, upd]
def dw_f13 (b : Nat) (Y : dw_S) (k : Nat) : List Value := [.int (dw_i Y k 0), .int (dw_i Y k 1), dw_v b (dw_r Y k 2), dw_v b (dw_r Y k 3), dw_v b (dw_r Y k 4), dw_v b (dw_r Y k 5), dw_v b (dw_r Y k 6), .int (dw_i Y k 7), .int (dw_i Y k 8), .int (dw_i Y k 9), .int (dw_i Y k 10), dw_v b (dw_r Y k 11), dw_v b (dw_r Y k 12)]
theorem dw_F13 {b k : Nat} {C : Nat → ClassId} {Y : dw_S} (h : dw_k Y k = 13) : dw_E b C Y k = .inr (13, dw_f13 b Y k) := dw_E13 h
theorem dw_in13 : ∀ w ∈ u_ws RX13 TX13 13, w ∈ tw_AW := by decide +kernel
theorem dw_df13 : ∀ j, j < 13 → defaultValue (tyX13 j) = vp_V [.int 0, .int 0, .null, .null, .null, .null, .null, .int 0, .int 0, .int 0, .int 0, .null, .null] j := by
  intro j hj
  have := List.mem_range.mpr hj
  revert j
  decide +kernel
theorem dw_fr13 {b a : Nat} {C : Nat → ClassId} {Y : dw_S} : dw_E b C (dw_nw Y a 13 0 (fun _ => 0) (fun _ => none)) a = .inr (13, [.int 0, .int 0, .null, .null, .null, .null, .null, .int 0, .int 0, .int 0, .int 0, .null, .null]) := by
  rw [dw_E13 dw_nw_k, dw_nw_i, dw_nw_r]
  rfl
theorem dw_p13_0 {b k : Nat} {C : Nat → ClassId} {Y : dw_S} {x : Int32} (h : dw_k Y k = 13) : dw_E b C (dw_pi Y k 0 x) k = .inr (13, (dw_f13 b Y k).set 0 (.int x)) := by
  rw [dw_E13 (Y := dw_pi Y k 0 x) h]
  simp [dw_f13, dw_i, dw_r, dw_pi, tw_up, upd]
theorem dw_p13_1 {b k : Nat} {C : Nat → ClassId} {Y : dw_S} {x : Int32} (h : dw_k Y k = 13) : dw_E b C (dw_pi Y k 1 x) k = .inr (13, (dw_f13 b Y k).set 1 (.int x)) := by
  rw [dw_E13 (Y := dw_pi Y k 1 x) h]
  simp [dw_f13, dw_i, dw_r, dw_pi, tw_up, upd]
theorem dw_p13_2 {b k : Nat} {C : Nat → ClassId} {Y : dw_S} {r : Option Nat} (h : dw_k Y k = 13) : dw_E b C (dw_pr Y k 2 r) k = .inr (13, (dw_f13 b Y k).set 2 (dw_v b r)) := by
  rw [dw_E13 (Y := dw_pr Y k 2 r) h]
  simp [dw_f13, dw_i, dw_r, dw_pr, va_up]
theorem dw_p13_3 {b k : Nat} {C : Nat → ClassId} {Y : dw_S} {r : Option Nat} (h : dw_k Y k = 13) : dw_E b C (dw_pr Y k 3 r) k = .inr (13, (dw_f13 b Y k).set 3 (dw_v b r)) := by
  rw [dw_E13 (Y := dw_pr Y k 3 r) h]
  simp [dw_f13, dw_i, dw_r, dw_pr, va_up]
theorem dw_p13_4 {b k : Nat} {C : Nat → ClassId} {Y : dw_S} {r : Option Nat} (h : dw_k Y k = 13) : dw_E b C (dw_pr Y k 4 r) k = .inr (13, (dw_f13 b Y k).set 4 (dw_v b r)) := by
  rw [dw_E13 (Y := dw_pr Y k 4 r) h]
  simp [dw_f13, dw_i, dw_r, dw_pr, va_up]
theorem dw_p13_5 {b k : Nat} {C : Nat → ClassId} {Y : dw_S} {r : Option Nat} (h : dw_k Y k = 13) : dw_E b C (dw_pr Y k 5 r) k = .inr (13, (dw_f13 b Y k).set 5 (dw_v b r)) := by
  rw [dw_E13 (Y := dw_pr Y k 5 r) h]
  simp [dw_f13, dw_i, dw_r, dw_pr, va_up]
theorem dw_p13_6 {b k : Nat} {C : Nat → ClassId} {Y : dw_S} {r : Option Nat} (h : dw_k Y k = 13) : dw_E b C (dw_pr Y k 6 r) k = .inr (13, (dw_f13 b Y k).set 6 (dw_v b r)) := by
  rw [dw_E13 (Y := dw_pr Y k 6 r) h]
  simp [dw_f13, dw_i, dw_r, dw_pr, va_up]
theorem dw_p13_7 {b k : Nat} {C : Nat → ClassId} {Y : dw_S} {x : Int32} (h : dw_k Y k = 13) : dw_E b C (dw_pi Y k 7 x) k = .inr (13, (dw_f13 b Y k).set 7 (.int x)) := by
  rw [dw_E13 (Y := dw_pi Y k 7 x) h]
  simp [dw_f13, dw_i, dw_r, dw_pi, tw_up, upd]
theorem dw_p13_8 {b k : Nat} {C : Nat → ClassId} {Y : dw_S} {x : Int32} (h : dw_k Y k = 13) : dw_E b C (dw_pi Y k 8 x) k = .inr (13, (dw_f13 b Y k).set 8 (.int x)) := by
  rw [dw_E13 (Y := dw_pi Y k 8 x) h]
  simp [dw_f13, dw_i, dw_r, dw_pi, tw_up, upd]
theorem dw_p13_9 {b k : Nat} {C : Nat → ClassId} {Y : dw_S} {x : Int32} (h : dw_k Y k = 13) : dw_E b C (dw_pi Y k 9 x) k = .inr (13, (dw_f13 b Y k).set 9 (.int x)) := by
  rw [dw_E13 (Y := dw_pi Y k 9 x) h]
  simp [dw_f13, dw_i, dw_r, dw_pi, tw_up, upd]
theorem dw_p13_10 {b k : Nat} {C : Nat → ClassId} {Y : dw_S} {x : Int32} (h : dw_k Y k = 13) : dw_E b C (dw_pi Y k 10 x) k = .inr (13, (dw_f13 b Y k).set 10 (.int x)) := by
  rw [dw_E13 (Y := dw_pi Y k 10 x) h]
  simp [dw_f13, dw_i, dw_r, dw_pi, tw_up, upd]
theorem dw_p13_11 {b k : Nat} {C : Nat → ClassId} {Y : dw_S} {r : Option Nat} (h : dw_k Y k = 13) : dw_E b C (dw_pr Y k 11 r) k = .inr (13, (dw_f13 b Y k).set 11 (dw_v b r)) := by
  rw [dw_E13 (Y := dw_pr Y k 11 r) h]
  simp [dw_f13, dw_i, dw_r, dw_pr, va_up]
theorem dw_p13_12 {b k : Nat} {C : Nat → ClassId} {Y : dw_S} {r : Option Nat} (h : dw_k Y k = 13) : dw_E b C (dw_pr Y k 12 r) k = .inr (13, (dw_f13 b Y k).set 12 (dw_v b r)) := by
  rw [dw_E13 (Y := dw_pr Y k 12 r) h]
  simp [dw_f13, dw_i, dw_r, dw_pr, va_up]
def dw_f14 (b : Nat) (Y : dw_S) (k : Nat) : List Value := [.int (dw_i Y k 0), .int (dw_i Y k 1), .int (dw_i Y k 2), .int (dw_i Y k 3)]
theorem dw_F14 {b k : Nat} {C : Nat → ClassId} {Y : dw_S} (h : dw_k Y k = 14) : dw_E b C Y k = .inr (14, dw_f14 b Y k) := dw_E14 h
theorem dw_in14 : ∀ w ∈ u_ws RX14 TX14 4, w ∈ tw_AW := by decide +kernel
theorem dw_df14 : ∀ j, j < 4 → defaultValue (tyX14 j) = vp_V [.int 0, .int 0, .int 0, .int 0] j := by
  intro j hj
  have := List.mem_range.mpr hj
  revert j
  decide +kernel
theorem dw_fr14 {b a : Nat} {C : Nat → ClassId} {Y : dw_S} : dw_E b C (dw_nw Y a 14 0 (fun _ => 0) (fun _ => none)) a = .inr (14, [.int 0, .int 0, .int 0, .int 0]) := by
  rw [dw_E14 dw_nw_k, dw_nw_i]
theorem dw_p14_0 {b k : Nat} {C : Nat → ClassId} {Y : dw_S} {x : Int32} (h : dw_k Y k = 14) : dw_E b C (dw_pi Y k 0 x) k = .inr (14, (dw_f14 b Y k).set 0 (.int x)) := by
  rw [dw_E14 (Y := dw_pi Y k 0 x) h]
  simp [dw_f14, dw_i, dw_r, dw_pi, tw_up, upd]
theorem dw_p14_1 {b k : Nat} {C : Nat → ClassId} {Y : dw_S} {x : Int32} (h : dw_k Y k = 14) : dw_E b C (dw_pi Y k 1 x) k = .inr (14, (dw_f14 b Y k).set 1 (.int x)) := by
  rw [dw_E14 (Y := dw_pi Y k 1 x) h]
  simp [dw_f14, dw_i, dw_r, dw_pi, tw_up, upd]
theorem dw_p14_2 {b k : Nat} {C : Nat → ClassId} {Y : dw_S} {x : Int32} (h : dw_k Y k = 14) : dw_E b C (dw_pi Y k 2 x) k = .inr (14, (dw_f14 b Y k).set 2 (.int x)) := by
  rw [dw_E14 (Y := dw_pi Y k 2 x) h]
  simp [dw_f14, dw_i, dw_r, dw_pi, tw_up, upd]
theorem dw_p14_3 {b k : Nat} {C : Nat → ClassId} {Y : dw_S} {x : Int32} (h : dw_k Y k = 14) : dw_E b C (dw_pi Y k 3 x) k = .inr (14, (dw_f14 b Y k).set 3 (.int x)) := by
  rw [dw_E14 (Y := dw_pi Y k 3 x) h]
  simp [dw_f14, dw_i, dw_r, dw_pi, tw_up, upd]
def dw_f15 (b : Nat) (Y : dw_S) (k : Nat) : List Value := [.int (dw_i Y k 0)]
theorem dw_F15 {b k : Nat} {C : Nat → ClassId} {Y : dw_S} (h : dw_k Y k = 15) : dw_E b C Y k = .inr (15, dw_f15 b Y k) := dw_E15 h
theorem dw_in15 : ∀ w ∈ u_ws RX15 TX15 1, w ∈ tw_AW := by decide +kernel
theorem dw_df15 : ∀ j, j < 1 → defaultValue (tyX15 j) = vp_V [.int 0] j := by
  intro j hj
  have := List.mem_range.mpr hj
  revert j
  decide +kernel
theorem dw_fr15 {b a : Nat} {C : Nat → ClassId} {Y : dw_S} : dw_E b C (dw_nw Y a 15 0 (fun _ => 0) (fun _ => none)) a = .inr (15, [.int 0]) := by
  rw [dw_E15 dw_nw_k, dw_nw_i]
theorem dw_p15_0 {b k : Nat} {C : Nat → ClassId} {Y : dw_S} {x : Int32} (h : dw_k Y k = 15) : dw_E b C (dw_pi Y k 0 x) k = .inr (15, (dw_f15 b Y k).set 0 (.int x)) := by
  rw [dw_E15 (Y := dw_pi Y k 0 x) h]
  simp [dw_f15, dw_i, dw_r, dw_pi, tw_up, upd]
def dw_f16 (b : Nat) (Y : dw_S) (k : Nat) : List Value := [dw_v b (dw_r Y k 0), .int (dw_i Y k 1), .int (dw_i Y k 2), .int (dw_i Y k 3)]
theorem dw_F16 {b k : Nat} {C : Nat → ClassId} {Y : dw_S} (h : dw_k Y k = 16) : dw_E b C Y k = .inr (16, dw_f16 b Y k) := dw_E16 h
theorem dw_in16 : ∀ w ∈ u_ws RJ0 TJ0 4, w ∈ tw_AW := by decide +kernel
theorem dw_df16 : ∀ j, j < 4 → defaultValue (tyJ0 j) = vp_V [.null, .int 0, .int 0, .int 0] j := by
  intro j hj
  have := List.mem_range.mpr hj
  revert j
  decide +kernel
theorem dw_fr16 {b a : Nat} {C : Nat → ClassId} {Y : dw_S} : dw_E b C (dw_nw Y a 16 0 (fun _ => 0) (fun _ => none)) a = .inr (16, [.null, .int 0, .int 0, .int 0]) := by
  rw [dw_E16 dw_nw_k, dw_nw_i, dw_nw_r]
  rfl
theorem dw_p16_0 {b k : Nat} {C : Nat → ClassId} {Y : dw_S} {r : Option Nat} (h : dw_k Y k = 16) : dw_E b C (dw_pr Y k 0 r) k = .inr (16, (dw_f16 b Y k).set 0 (dw_v b r)) := by
  rw [dw_E16 (Y := dw_pr Y k 0 r) h]
  simp [dw_f16, dw_i, dw_r, dw_pr, va_up]
theorem dw_p16_1 {b k : Nat} {C : Nat → ClassId} {Y : dw_S} {x : Int32} (h : dw_k Y k = 16) : dw_E b C (dw_pi Y k 1 x) k = .inr (16, (dw_f16 b Y k).set 1 (.int x)) := by
  rw [dw_E16 (Y := dw_pi Y k 1 x) h]
  simp [dw_f16, dw_i, dw_r, dw_pi, tw_up, upd]
theorem dw_p16_2 {b k : Nat} {C : Nat → ClassId} {Y : dw_S} {x : Int32} (h : dw_k Y k = 16) : dw_E b C (dw_pi Y k 2 x) k = .inr (16, (dw_f16 b Y k).set 2 (.int x)) := by
  rw [dw_E16 (Y := dw_pi Y k 2 x) h]
  simp [dw_f16, dw_i, dw_r, dw_pi, tw_up, upd]
theorem dw_p16_3 {b k : Nat} {C : Nat → ClassId} {Y : dw_S} {x : Int32} (h : dw_k Y k = 16) : dw_E b C (dw_pi Y k 3 x) k = .inr (16, (dw_f16 b Y k).set 3 (.int x)) := by
  rw [dw_E16 (Y := dw_pi Y k 3 x) h]
  simp [dw_f16, dw_i, dw_r, dw_pi, tw_up, upd]
def dw_f17 (b : Nat) (Y : dw_S) (k : Nat) : List Value := [dw_v b (dw_r Y k 0), .int (dw_i Y k 1), .int (dw_i Y k 2), .int (dw_i Y k 3)]
theorem dw_F17 {b k : Nat} {C : Nat → ClassId} {Y : dw_S} (h : dw_k Y k = 17) : dw_E b C Y k = .inr (17, dw_f17 b Y k) := dw_E17 h
theorem dw_in17 : ∀ w ∈ u_ws RJ4 TJ4 4, w ∈ tw_AW := by decide +kernel
theorem dw_df17 : ∀ j, j < 4 → defaultValue (tyJ4 j) = vp_V [.null, .int 0, .int 0, .int 0] j := by
  intro j hj
  have := List.mem_range.mpr hj
  revert j
  decide +kernel
theorem dw_fr17 {b a : Nat} {C : Nat → ClassId} {Y : dw_S} : dw_E b C (dw_nw Y a 17 0 (fun _ => 0) (fun _ => none)) a = .inr (17, [.null, .int 0, .int 0, .int 0]) := by
  rw [dw_E17 dw_nw_k, dw_nw_i, dw_nw_r]
  rfl
theorem dw_p17_0 {b k : Nat} {C : Nat → ClassId} {Y : dw_S} {r : Option Nat} (h : dw_k Y k = 17) : dw_E b C (dw_pr Y k 0 r) k = .inr (17, (dw_f17 b Y k).set 0 (dw_v b r)) := by
  rw [dw_E17 (Y := dw_pr Y k 0 r) h]
  simp [dw_f17, dw_i, dw_r, dw_pr, va_up]
theorem dw_p17_1 {b k : Nat} {C : Nat → ClassId} {Y : dw_S} {x : Int32} (h : dw_k Y k = 17) : dw_E b C (dw_pi Y k 1 x) k = .inr (17, (dw_f17 b Y k).set 1 (.int x)) := by
  rw [dw_E17 (Y := dw_pi Y k 1 x) h]
  simp [dw_f17, dw_i, dw_r, dw_pi, tw_up, upd]
theorem dw_p17_2 {b k : Nat} {C : Nat → ClassId} {Y : dw_S} {x : Int32} (h : dw_k Y k = 17) : dw_E b C (dw_pi Y k 2 x) k = .inr (17, (dw_f17 b Y k).set 2 (.int x)) := by
  rw [dw_E17 (Y := dw_pi Y k 2 x) h]
  simp [dw_f17, dw_i, dw_r, dw_pi, tw_up, upd]
theorem dw_p17_3 {b k : Nat} {C : Nat → ClassId} {Y : dw_S} {x : Int32} (h : dw_k Y k = 17) : dw_E b C (dw_pi Y k 3 x) k = .inr (17, (dw_f17 b Y k).set 3 (.int x)) := by
  rw [dw_E17 (Y := dw_pi Y k 3 x) h]
  simp [dw_f17, dw_i, dw_r, dw_pi, tw_up, upd]
def tw_Mw (y : MethodName) (cy : ByteArray) (mL : Nat) (ret : Option FieldType) (hh : List (Nat × Nat × Nat × Nat)) (n : Nat) : Prop :=
  (Cond.codeWith y cy mL ret hh) ∈ lw_tbl ∧ (Cond.initialized y.cls) ∈ lw_tbl ∧ (y.cls ≠ "java/lang/invoke/MethodHandle" ∧ y.cls ≠ "java/lang/invoke/VarHandle") ∧ (parseMethodDescriptor y.desc).map (fun d => d.parameters.length) = some n ∧ (Cond.static y) ∈ lw_tbl
theorem dw_nz {x : Int32} (h : tw_01 x = true) : narrow .boolean (.int x) = .int x := tw_01_b h
theorem dw_fz {x : Int32} (h : tw_01 x = true) : fits .boolean (.int x) = true := by
  rcases of_decide_eq_true h with h | h <;> subst h <;> decide
theorem dw_out4 {x : Int32} (h0 : ¬ x = 0) (h1 : ¬ x = 1) (h2 : ¬ x = 2) (h3 : ¬ x = 3) (h4 : ¬ x = 4) : x.toInt < 0 ∨ (4 : Int) < x.toInt := by
  have e : ∀ v : Int32, ¬ x = v → ¬ x.toInt = v.toInt := fun v h q => h (Int32.toInt_inj.mp q)
  have g0 : ¬ x.toInt = 0 := e 0 h0
  have g1 : ¬ x.toInt = 1 := e 1 h1
  have g2 : ¬ x.toInt = 2 := e 2 h2
  have g3 : ¬ x.toInt = 3 := e 3 h3
  have g4 : ¬ x.toInt = 4 := e 4 h4
  omega
/-! the law's wrappers -/
def pw_bc {α : Type} (e : Option (α ⊕ String)) (K : α → Prop) (Hd : String → Prop) : Prop := match e with | none => False | some (.inl a) => K a | some (.inr x) => Hd x
theorem e_bc {z : tw_Z} {b pc : Nat} {Y : dw_S} {L : List (Nat × Value)} {st : List Value} {α : Type} {e : Option (α ⊕ String)} {K : α → Prop} {Hd : String → Prop} (k : ∀ a, e = some (.inl a) → dw_Rf z b (K a) Y pc L st) (kx : ∀ x, e = some (.inr x) → dw_Rf z b (Hd x) Y pc L st) : dw_Rf z b (pw_bc e K Hd) Y pc L st := by
  cases e with
  | none => intro hE; exact hE.elim
  | some v =>
    cases v with
    | inl a => exact k a rfl
    | inr x => exact kx x rfl
abbrev dw_MetW {ρ : Type} (l : Launch) (b : Nat) (D : tw_G) (C : Nat → ClassId) (S : Nat → Nat) (y : MethodName) (cy : ByteArray) (mL : Nat) (ret : Option FieldType) (hh : List (Nat × Nat × Nat × Nat)) (rm : Room) (argv : List Value) (Y : dw_S) (val : ρ → Option Value) (st' : ρ → dw_S) (Q : ρ → Prop) : Prop :=
  Met l y [.codeWith y cy mL ret hh] rm (dw_Pre b D C S argv Y) (dw_Qc b D C val st' Q) 1 6 (fun q => b ≤ q)
theorem dw_metOfW {ρ : Type} {l : Launch} {b : Nat} {D : tw_G} {C : Nat → ClassId} {S : Nat → Nat} {y : MethodName} {cy : ByteArray} {mL : Nat} {ret : Option FieldType} {hh : List (Nat × Nat × Nat × Nat)} {fr lo : Nat} {argv : List Value} {Y : dw_S} (E : Prop) (hE : E) (val : ρ → Option Value) (st' : ρ → dw_S) (Q : ρ → Prop) (hy : plainName y.cls = true) (hlen : (lg_sl argv).length ≤ mL)
    (body : ∀ z : tw_Z, tw_zl z = l → tw_zB z = b → tw_zD z = D → tw_zC z = C → tw_zS z = S → tw_zR z = { frames := fr, cells := 1, slots := 6, locals := lo } → tw_X z cy y.cls mL → dw_AK b S (tw_zs z) → (tw_zmeth z).sig.returnType = ret → (tw_zc z).exceptionTable.toList = tableOf hh → dw_Ro z b val st' Q → dw_Rf (tw_cz z 0 0) b E Y 0 (lv_args 0 argv) []) : dw_MetW l b D C S y cy mL ret hh { frames := fr, cells := 1, slots := 6, locals := lo } argv Y val st' Q := by
  refine va_MetW (cc := cy) (maxL := mL) (ret := ret) (hh := hh) hy rfl ?_
  intro p e s m args below meth c s₁ Bd hml hv
  obtain ⟨rfl, hP, hEV, hAK⟩ := hv
  rw [lg_entry_eq]
  have hl := lv_entry argv (n := mL) hlen
  have hR : (headSpec [Cond.codeWith y cy mL ret hh] { frames := fr, cells := 1, slots := 6, locals := lo }).room = { frames := fr, cells := 1, slots := 6, locals := lo } := rfl
  rw [hR]
  have htab : c.exceptionTable.toList = tableOf hh := vx_table (x := y) Bd (atoms_spec (ws := [Cond.codeWith y cy mL ret hh]) Bd.pre _ (List.mem_singleton.mpr rfl))
  refine body (p, l, e, { frames := fr, cells := 1, slots := 6, locals := lo }, s, m, argv.toArray, below, meth, c, b, D, C, S, mL, 0, 0, MQ below (dw_Qc b D C val st' Q) argv.toArray s 1 6 (fun q => b ≤ q)) rfl rfl rfl rfl rfl rfl ⟨Bd.exec, Bd.bytes, hml, findClass_of_methodNamed Bd.named, Bd.notSynchronized, hEV, rfl⟩ hAK Bd.returns htab ?_ hE s.heap [] _ hP va_S.rf hl
  intro c' s' hc hs H locs g h T hT X
  obtain ⟨t, a1, oc, b1, b2, b3, L, hF, hL⟩ := h T hT X
  exact ⟨t, a1, oc, b1, b2, b3, L, ⟨hF.1, hF.2.1, hF.2.2.mono hc hs⟩, hL⟩
theorem e_callW {z : tw_Z} {b : Nat} {cc : ByteArray} {own : String} {nL pc ix mL n : Nat} {Y : dw_S} {L : List (Nat × Value)} {st st0 : List Value} {y : MethodName} {cy : ByteArray} {ret : Option FieldType} {hh : List (Nat × Nat × Nat × Nat)} {fr lo : Nat} {As : List Value} {ρ1 : Type} {val1 : ρ1 → Option Value} {st1 : ρ1 → dw_S} {P : (ρ1 → Prop) → Prop} {K : ρ1 → Prop} (X : tw_X z cc own nL) (hA : dw_AK (tw_zB z) (tw_zS z) (tw_zs z)) (hb : tw_zB z ≤ b) (hD : (tw_zD z).2 = []) {c s MC MS : Nat} (hR0 : tw_zcells z = c ∧ tw_zslots z = s) (hRM : (tw_zR z).cells = MC ∧ (tw_zR z).slots = MS) (d : decode cc pc = .ok (.invokestatic ix, 3)) (hM : ∀ Q, P Q → dw_MetW (tw_zl z) b (tw_zD z) (tw_zC z) (tw_zS z) y cy mL ret hh { frames := fr, cells := 1, slots := 6, locals := lo } As Y val1 st1 Q) (hy : tw_Mw y cy mL ret hh n) (i : Nat) (hi : lw_tbl[i]? = some (.methodLink own ix y)) (hn : As.length = n) (hR : fr + 1 ≤ (tw_zR z).frames ∧ 8 + (mL + 11) + lo ≤ (tw_zR z).locals) (hst : (st.map fun v => v.category).sum ≤ 8) (hs0 : st0 = As.reverse ++ st) (kk : ∀ r, dw_Rf (tw_cz z (c + 1) (s + 6)) b (K r) (st1 r) (pc + 3) L ((val1 r).toList ++ st)) : dw_Rf z b (pw_ck (c + 1 ≤ MC ∧ s + 6 ≤ MS) (P K)) Y pc L st0 := e_ck (fun hc hE => by
  subst hs0
  obtain ⟨rfl, rfl⟩ := hR0
  obtain ⟨rfl, rfl⟩ := hRM
  obtain ⟨h1, h2, h3, h4, h5⟩ := hy
  exact e_run hb (fun H locs ls hP hS hl => vx_runSW (As := As) (rest := st) (tw_fix X) (hM K hE) (index := ix) (n := n) ⟨⟨rfl, rfl, hR.1, hR.2, fun w hw a' U hW => by rw [List.mem_singleton.mp hw]; exact ((X.2.2.2.2.2.1.1.warm hW) _ h1 rfl).use rfl, List.mem_singleton.mpr rfl⟩, tw_wd X h1 rfl, tw_wd X h2 rfl, h3, fun sig h => by rw [h] at h4; exact (Option.some.inj h4).symm, X.ws i hi rfl, tw_wd X h5 rfl⟩ (dw_preS X hA hb hD hP hS) rfl hn (hl.1.trans X.2.2.2.2.2.2) rfl (lv_room hst) d hc) kk trivial)

theorem dw_bind {α : Type} {e : Option (α ⊕ String)} {r : α} (h : (e |>.bind (fun q => match q with | .inl a => some a | .inr _ => none)) = some r) : e = some (.inl r) := by
  cases e with
  | none => cases h
  | some v =>
    cases v with
    | inl a => cases h; rfl
    | inr x => cases h
def dw_P_L_load (n : Nat) (x1 : Int32) (Y : dw_S) (Q : Int32 × dw_S → Prop) : Prop := pw_bc (tw_P_X11_load n x1 (dw_s Y)) (fun r => Q (r.1, (dw_cs Y r.2))) (fun x => if x = "java/lang/IllegalArgumentException" then Q ((-2000000098 : Int32), Y) else False)
theorem dw_y_L_load : tw_Mw yL_load cL_load 3 (some .int) [((0 : Nat), (5 : Nat), (6 : Nat), (40 : Nat))] 2 := ⟨List.mem_of_getElem? dw_x750, List.mem_of_getElem? dw_x35, by decide +kernel, by decide +kernel, List.mem_of_getElem? dw_x749⟩
set_option maxRecDepth 100000 in
set_option maxHeartbeats 4000000 in
theorem dw_m_L_load {l : Launch} {b : Nat} {D : tw_G} {C : Nat → ClassId} {S : Nat → Nat} (hD : D.2 = []) {n : Nat} {x1 : Int32} {Y : dw_S} {Q : Int32 × dw_S → Prop} (hst : l.stackTraces = false) (h : dw_P_L_load n x1 Y Q) : dw_MetW l b D C S yL_load cL_load 3 (some .int) [((0 : Nat), (5 : Nat), (6 : Nat), (40 : Nat))] ({ frames := 12, cells := 1, slots := 6, locals := 257 } : Room) [.ref (b + 0), .int x1] Y (fun r : Int32 × dw_S => some (.int r.1)) (fun r => r.2) Q := by
  refine dw_metOfW (dw_P_L_load n x1 Y Q) h _ _ Q (by decide +kernel) (Nat.le_of_ble_eq_true rfl) ?_
  intro z el eB eD eC eS eR X hA hret htab hQ
  subst el eD eC eS
  have hb : tw_zB z ≤ b := Nat.le_of_eq eB
  have hfr : (tw_zR z).frames = 12 := by rw [eR]
  have hlo : (tw_zR z).locals = 257 := by rw [eR]
  have eMC : (tw_zR z).cells = 1 := by rw [eR]
  have eMS : (tw_zR z).slots = 6 := by rw [eR]
  have X : tw_X z cL_load "TreasureWalkLaw" 3 := X
  show dw_Rf (tw_cz z 0 0) b _ Y 0 [(0, .ref (b + 0)), (1, .int x1)] []
  unfold dw_P_L_load
  refine e_aload_n (z := tw_cz z 0 0) X dL_load_0 rfl 0 rfl ?_
  refine e_iload_n (z := tw_cz z 0 0) X dL_load_1 rfl 1 rfl ?_
  refine e_bc (fun r hr => ?_) (fun x hx => ?_)
  ·
    refine dw_ckp (by exact ⟨Nat.le_of_ble_eq_true rfl, Nat.le_of_ble_eq_true rfl⟩) (e_cls1 (σ' := r.2) (As := [.int x1]) (z := tw_cz z 0 0) X hb ⟨rfl, rfl⟩ ⟨eMC, eMS⟩ dL_load_2 (tw_m_X11_load hr) tw_y_X11_load tw_v_X11_load _ dw_x752 rfl ⟨rfl, rfl, tw_le hfr rfl, tw_le hlo rfl⟩ (Nat.le_of_ble_eq_true rfl) rfl ?_)
    exact dw_ckp (by exact ⟨Nat.zero_le 1, Nat.zero_le 6⟩) (e_iret (z := z) X eB dL_load_5 hret ⟨eMC, eMS⟩ hQ rfl rfl)
  ·
    have hM := tw_mx_X11_load (l := tw_zl z) (B := b) (D := ((tw_zD z).1, dw_wl b (tw_zC z) Y)) (C := tw_zC z) (S := tw_zS z) hst hx
    refine e_ite (fun he => ?_) (fun he => ?_)
    ·
      subst he
      refine e_clsX (z := tw_cz z 0 0) (st := []) (As := [.int x1]) X hb dL_load_2 hM tw_y_X11_load tw_v_X11_load _ dw_x752 rfl ⟨rfl, rfl, tw_le hfr rfl, tw_le hlo rfl⟩ ⟨by show 0 + 1 ≤ (tw_zR z).cells; rw [eMC]; exact Nat.le_refl _, by show 0 + 6 ≤ (tw_zR z).slots; rw [eMS]; exact Nat.le_refl _⟩ (Nat.le_of_ble_eq_true rfl) rfl [] ⟨0, 5, 6, 40⟩ [] htab (fun q h => nomatch h) (by decide) (by decide) _ dw_x751 (List.mem_of_getElem? dw_x758) (fun q => ?_)
      refine e_astore_n (z := tw_cz z 1 6) (L' := [(2, .ref q), (0, .ref (b + 0)), (1, .int x1)]) X dL_load_6 rfl (by decide) rfl ?_
      refine e_ldcI (z := tw_cz z 1 6) X dL_load_7 (v := (-2000000098 : Int32)) _ dw_x1033 ?_
      exact dw_ckp (by exact ⟨Nat.le_refl 1, Nat.le_refl 6⟩) (e_iret (z := z) X eB dL_load_9 hret ⟨eMC, eMS⟩ hQ rfl rfl)
    ·
      intro hE; exact hE.elim
def dw_P_L_state (n : Nat) (x1 : Int32) (Y : dw_S) (Q : Int32 × dw_S → Prop) : Prop := pw_bc (tw_P_X11_state n x1 (dw_s Y)) (fun r => Q (r.1, (dw_cs Y r.2))) (fun x => if x = "java/lang/IllegalArgumentException" then Q ((-2000000098 : Int32), Y) else False)
theorem dw_y_L_state : tw_Mw yL_state cL_state 3 (some .int) [((0 : Nat), (5 : Nat), (6 : Nat), (40 : Nat))] 2 := ⟨List.mem_of_getElem? dw_x1597, List.mem_of_getElem? dw_x35, by decide +kernel, by decide +kernel, List.mem_of_getElem? dw_x1596⟩
set_option maxRecDepth 100000 in
set_option maxHeartbeats 4000000 in
theorem dw_m_L_state {l : Launch} {b : Nat} {D : tw_G} {C : Nat → ClassId} {S : Nat → Nat} (hD : D.2 = []) {n : Nat} {x1 : Int32} {Y : dw_S} {Q : Int32 × dw_S → Prop} (hst : l.stackTraces = false) (h : dw_P_L_state n x1 Y Q) : dw_MetW l b D C S yL_state cL_state 3 (some .int) [((0 : Nat), (5 : Nat), (6 : Nat), (40 : Nat))] ({ frames := 7, cells := 1, slots := 6, locals := 166 } : Room) [.ref (b + 0), .int x1] Y (fun r : Int32 × dw_S => some (.int r.1)) (fun r => r.2) Q := by
  refine dw_metOfW (dw_P_L_state n x1 Y Q) h _ _ Q (by decide +kernel) (Nat.le_of_ble_eq_true rfl) ?_
  intro z el eB eD eC eS eR X hA hret htab hQ
  subst el eD eC eS
  have hb : tw_zB z ≤ b := Nat.le_of_eq eB
  have hfr : (tw_zR z).frames = 7 := by rw [eR]
  have hlo : (tw_zR z).locals = 166 := by rw [eR]
  have eMC : (tw_zR z).cells = 1 := by rw [eR]
  have eMS : (tw_zR z).slots = 6 := by rw [eR]
  have X : tw_X z cL_state "TreasureWalkLaw" 3 := X
  show dw_Rf (tw_cz z 0 0) b _ Y 0 [(0, .ref (b + 0)), (1, .int x1)] []
  unfold dw_P_L_state
  refine e_aload_n (z := tw_cz z 0 0) X dL_state_0 rfl 0 rfl ?_
  refine e_iload_n (z := tw_cz z 0 0) X dL_state_1 rfl 1 rfl ?_
  refine e_bc (fun r hr => ?_) (fun x hx => ?_)
  ·
    refine dw_ckp (by exact ⟨Nat.le_of_ble_eq_true rfl, Nat.le_of_ble_eq_true rfl⟩) (e_cls1 (σ' := r.2) (As := [.int x1]) (z := tw_cz z 0 0) X hb ⟨rfl, rfl⟩ ⟨eMC, eMS⟩ dL_state_2 (tw_m_X11_state hr) tw_y_X11_state tw_v_X11_state _ dw_x1598 rfl ⟨rfl, rfl, tw_le hfr rfl, tw_le hlo rfl⟩ (Nat.le_of_ble_eq_true rfl) rfl ?_)
    exact dw_ckp (by exact ⟨Nat.zero_le 1, Nat.zero_le 6⟩) (e_iret (z := z) X eB dL_state_5 hret ⟨eMC, eMS⟩ hQ rfl rfl)
  ·
    have hM := tw_mx_X11_state (l := tw_zl z) (B := b) (D := ((tw_zD z).1, dw_wl b (tw_zC z) Y)) (C := tw_zC z) (S := tw_zS z) hst hx
    refine e_ite (fun he => ?_) (fun he => ?_)
    ·
      subst he
      refine e_clsX (z := tw_cz z 0 0) (st := []) (As := [.int x1]) X hb dL_state_2 hM tw_y_X11_state tw_v_X11_state _ dw_x1598 rfl ⟨rfl, rfl, tw_le hfr rfl, tw_le hlo rfl⟩ ⟨by show 0 + 1 ≤ (tw_zR z).cells; rw [eMC]; exact Nat.le_refl _, by show 0 + 6 ≤ (tw_zR z).slots; rw [eMS]; exact Nat.le_refl _⟩ (Nat.le_of_ble_eq_true rfl) rfl [] ⟨0, 5, 6, 40⟩ [] htab (fun q h => nomatch h) (by decide) (by decide) _ dw_x751 (List.mem_of_getElem? dw_x758) (fun q => ?_)
      refine e_astore_n (z := tw_cz z 1 6) (L' := [(2, .ref q), (0, .ref (b + 0)), (1, .int x1)]) X dL_state_6 rfl (by decide) rfl ?_
      refine e_ldcI (z := tw_cz z 1 6) X dL_state_7 (v := (-2000000098 : Int32)) _ dw_x1033 ?_
      exact dw_ckp (by exact ⟨Nat.le_refl 1, Nat.le_refl 6⟩) (e_iret (z := z) X eB dL_state_9 hret ⟨eMC, eMS⟩ hQ rfl rfl)
    ·
      intro hE; exact hE.elim
def dw_P_L_cell (n : Nat) (x1 : Int32) (x2 : Int32) (Y : dw_S) (Q : Int32 × dw_S → Prop) : Prop := pw_bc (tw_P_X11_cell n x1 x2 (dw_s Y)) (fun r => Q (r.1, (dw_cs Y r.2))) (fun x => if x = "java/lang/IndexOutOfBoundsException" then Q ((-2000000097 : Int32), Y) else False)
theorem dw_y_L_cell : tw_Mw yL_cell cL_cell 4 (some .int) [((0 : Nat), (6 : Nat), (7 : Nat), (50 : Nat))] 3 := ⟨List.mem_of_getElem? dw_x1601, List.mem_of_getElem? dw_x35, by decide +kernel, by decide +kernel, List.mem_of_getElem? dw_x1600⟩
set_option maxRecDepth 100000 in
set_option maxHeartbeats 4000000 in
theorem dw_m_L_cell {l : Launch} {b : Nat} {D : tw_G} {C : Nat → ClassId} {S : Nat → Nat} (hD : D.2 = []) {n : Nat} {x1 : Int32} {x2 : Int32} {Y : dw_S} {Q : Int32 × dw_S → Prop} (hst : l.stackTraces = false) (h : dw_P_L_cell n x1 x2 Y Q) : dw_MetW l b D C S yL_cell cL_cell 4 (some .int) [((0 : Nat), (6 : Nat), (7 : Nat), (50 : Nat))] ({ frames := 8, cells := 1, slots := 6, locals := 136 } : Room) [.ref (b + 0), .int x1, .int x2] Y (fun r : Int32 × dw_S => some (.int r.1)) (fun r => r.2) Q := by
  refine dw_metOfW (dw_P_L_cell n x1 x2 Y Q) h _ _ Q (by decide +kernel) (Nat.le_of_ble_eq_true rfl) ?_
  intro z el eB eD eC eS eR X hA hret htab hQ
  subst el eD eC eS
  have hb : tw_zB z ≤ b := Nat.le_of_eq eB
  have hfr : (tw_zR z).frames = 8 := by rw [eR]
  have hlo : (tw_zR z).locals = 136 := by rw [eR]
  have eMC : (tw_zR z).cells = 1 := by rw [eR]
  have eMS : (tw_zR z).slots = 6 := by rw [eR]
  have X : tw_X z cL_cell "TreasureWalkLaw" 4 := X
  show dw_Rf (tw_cz z 0 0) b _ Y 0 [(0, .ref (b + 0)), (1, .int x1), (2, .int x2)] []
  unfold dw_P_L_cell
  refine e_aload_n (z := tw_cz z 0 0) X dL_cell_0 rfl 0 rfl ?_
  refine e_iload_n (z := tw_cz z 0 0) X dL_cell_1 rfl 1 rfl ?_
  refine e_iload_n (z := tw_cz z 0 0) X dL_cell_2 rfl 2 rfl ?_
  refine e_bc (fun r hr => ?_) (fun x hx => ?_)
  ·
    refine dw_ckp (by exact ⟨Nat.le_of_ble_eq_true rfl, Nat.le_of_ble_eq_true rfl⟩) (e_cls1 (σ' := r.2) (As := [.int x1, .int x2]) (z := tw_cz z 0 0) X hb ⟨rfl, rfl⟩ ⟨eMC, eMS⟩ dL_cell_3 (tw_m_X11_cell hr) tw_y_X11_cell tw_v_X11_cell _ dw_x1602 rfl ⟨rfl, rfl, tw_le hfr rfl, tw_le hlo rfl⟩ (Nat.le_of_ble_eq_true rfl) rfl ?_)
    exact dw_ckp (by exact ⟨Nat.zero_le 1, Nat.zero_le 6⟩) (e_iret (z := z) X eB dL_cell_6 hret ⟨eMC, eMS⟩ hQ rfl rfl)
  ·
    have hM := tw_mx_X11_cell (l := tw_zl z) (B := b) (D := ((tw_zD z).1, dw_wl b (tw_zC z) Y)) (C := tw_zC z) (S := tw_zS z) hst hx
    refine e_ite (fun he => ?_) (fun he => ?_)
    ·
      subst he
      refine e_clsX (z := tw_cz z 0 0) (st := []) (As := [.int x1, .int x2]) X hb dL_cell_3 hM tw_y_X11_cell tw_v_X11_cell _ dw_x1602 rfl ⟨rfl, rfl, tw_le hfr rfl, tw_le hlo rfl⟩ ⟨by show 0 + 1 ≤ (tw_zR z).cells; rw [eMC]; exact Nat.le_refl _, by show 0 + 6 ≤ (tw_zR z).slots; rw [eMS]; exact Nat.le_refl _⟩ (Nat.le_of_ble_eq_true rfl) rfl [] ⟨0, 6, 7, 50⟩ [] htab (fun q h => nomatch h) (by decide) (by decide) _ dw_x1037 (List.mem_of_getElem? dw_x1048) (fun q => ?_)
      refine e_astore_n (z := tw_cz z 1 6) (L' := [(3, .ref q), (0, .ref (b + 0)), (1, .int x1), (2, .int x2)]) X dL_cell_7 rfl (by decide) rfl ?_
      refine e_ldcI (z := tw_cz z 1 6) X dL_cell_8 (v := (-2000000097 : Int32)) _ dw_x1070 ?_
      exact dw_ckp (by exact ⟨Nat.le_refl 1, Nat.le_refl 6⟩) (e_iret (z := z) X eB dL_cell_10 hret ⟨eMC, eMS⟩ hQ rfl rfl)
    ·
      intro hE; exact hE.elim
def dw_P_L_pace (n : Nat) (x1 : Int32) (x2 : Int32) (x3 : Int32) (Y : dw_S) (Q : Int32 × dw_S → Prop) : Prop := pw_bc (tw_P_X11_pace x1 x2 x3 (dw_s Y)) (fun r => Q (r, Y)) (fun x => if x = "java/lang/IndexOutOfBoundsException" then Q ((-2000000097 : Int32), Y) else if x = "java/lang/IllegalArgumentException" then Q ((-2000000098 : Int32), Y) else False)
theorem dw_y_L_pace : tw_Mw yL_pace cL_pace 5 (some .int) [((0 : Nat), (7 : Nat), (8 : Nat), (50 : Nat)), ((0 : Nat), (7 : Nat), (13 : Nat), (40 : Nat))] 4 := ⟨List.mem_of_getElem? dw_x1036, List.mem_of_getElem? dw_x35, by decide +kernel, by decide +kernel, List.mem_of_getElem? dw_x1035⟩
set_option maxRecDepth 100000 in
set_option maxHeartbeats 4000000 in
theorem dw_m_L_pace {l : Launch} {b : Nat} {D : tw_G} {C : Nat → ClassId} {S : Nat → Nat} (hD : D.2 = []) {n : Nat} {x1 : Int32} {x2 : Int32} {x3 : Int32} {Y : dw_S} {Q : Int32 × dw_S → Prop} (hst : l.stackTraces = false) (h : dw_P_L_pace n x1 x2 x3 Y Q) : dw_MetW l b D C S yL_pace cL_pace 5 (some .int) [((0 : Nat), (7 : Nat), (8 : Nat), (50 : Nat)), ((0 : Nat), (7 : Nat), (13 : Nat), (40 : Nat))] ({ frames := 8, cells := 1, slots := 6, locals := 136 } : Room) [.ref (b + 0), .int x1, .int x2, .int x3] Y (fun r : Int32 × dw_S => some (.int r.1)) (fun r => r.2) Q := by
  refine dw_metOfW (dw_P_L_pace n x1 x2 x3 Y Q) h _ _ Q (by decide +kernel) (Nat.le_of_ble_eq_true rfl) ?_
  intro z el eB eD eC eS eR X hA hret htab hQ
  subst el eD eC eS
  have hb : tw_zB z ≤ b := Nat.le_of_eq eB
  have hfr : (tw_zR z).frames = 8 := by rw [eR]
  have hlo : (tw_zR z).locals = 136 := by rw [eR]
  have eMC : (tw_zR z).cells = 1 := by rw [eR]
  have eMS : (tw_zR z).slots = 6 := by rw [eR]
  have X : tw_X z cL_pace "TreasureWalkLaw" 5 := X
  show dw_Rf (tw_cz z 0 0) b _ Y 0 [(0, .ref (b + 0)), (1, .int x1), (2, .int x2), (3, .int x3)] []
  unfold dw_P_L_pace
  refine e_aload_n (z := tw_cz z 0 0) X dL_pace_0 rfl 0 rfl ?_
  refine e_iload_n (z := tw_cz z 0 0) X dL_pace_1 rfl 1 rfl ?_
  refine e_iload_n (z := tw_cz z 0 0) X dL_pace_2 rfl 2 rfl ?_
  refine e_iload_n (z := tw_cz z 0 0) X dL_pace_3 rfl 3 rfl ?_
  refine e_bc (fun r hr => ?_) (fun x hx => ?_)
  ·
    refine dw_ckp (by exact ⟨Nat.le_of_ble_eq_true rfl, Nat.le_of_ble_eq_true rfl⟩) (e_cls1 (σ' := dw_s Y) (As := [.int x1, .int x2, .int x3]) (z := tw_cz z 0 0) X hb ⟨rfl, rfl⟩ ⟨eMC, eMS⟩ dL_pace_4 (tw_m_X11_pace hr) tw_y_X11_pace tw_v_X11_pace _ dw_x1038 rfl ⟨rfl, rfl, tw_le hfr rfl, tw_le hlo rfl⟩ (Nat.le_of_ble_eq_true rfl) rfl ?_)
    exact dw_ckp (by exact ⟨Nat.zero_le 1, Nat.zero_le 6⟩) (e_iret (z := z) X eB dL_pace_7 hret ⟨eMC, eMS⟩ hQ rfl rfl)
  ·
    have hM := tw_mx_X11_pace (l := tw_zl z) (B := b) (D := ((tw_zD z).1, dw_wl b (tw_zC z) Y)) (C := tw_zC z) (S := tw_zS z) hst hx
    refine e_ite (fun he => ?_) (fun he => ?_)
    ·
      subst he
      refine e_clsX (z := tw_cz z 0 0) (st := []) (As := [.int x1, .int x2, .int x3]) X hb dL_pace_4 hM tw_y_X11_pace tw_v_X11_pace _ dw_x1038 rfl ⟨rfl, rfl, tw_le hfr rfl, tw_le hlo rfl⟩ ⟨by show 0 + 1 ≤ (tw_zR z).cells; rw [eMC]; exact Nat.le_refl _, by show 0 + 6 ≤ (tw_zR z).slots; rw [eMS]; exact Nat.le_refl _⟩ (Nat.le_of_ble_eq_true rfl) rfl [] ⟨0, 7, 8, 50⟩ [⟨0, 7, 13, 40⟩] htab (fun q h => nomatch h) (by decide) (by decide) _ dw_x1037 (List.mem_of_getElem? dw_x1048) (fun q => ?_)
      refine e_astore (z := tw_cz z 1 6) (L' := [(4, .ref q), (0, .ref (b + 0)), (1, .int x1), (2, .int x2), (3, .int x3)]) X dL_pace_8 (by decide) rfl ?_
      refine e_ldcI (z := tw_cz z 1 6) X dL_pace_10 (v := (-2000000097 : Int32)) _ dw_x1070 ?_
      exact dw_ckp (by exact ⟨Nat.le_refl 1, Nat.le_refl 6⟩) (e_iret (z := z) X eB dL_pace_12 hret ⟨eMC, eMS⟩ hQ rfl rfl)
    ·
      refine e_ite (fun he => ?_) (fun he => ?_)
      ·
        subst he
        refine e_clsX (z := tw_cz z 0 0) (st := []) (As := [.int x1, .int x2, .int x3]) X hb dL_pace_4 hM tw_y_X11_pace tw_v_X11_pace _ dw_x1038 rfl ⟨rfl, rfl, tw_le hfr rfl, tw_le hlo rfl⟩ ⟨by show 0 + 1 ≤ (tw_zR z).cells; rw [eMC]; exact Nat.le_refl _, by show 0 + 6 ≤ (tw_zR z).slots; rw [eMS]; exact Nat.le_refl _⟩ (Nat.le_of_ble_eq_true rfl) rfl [⟨0, 7, 8, 50⟩] ⟨0, 7, 13, 40⟩ [] htab (fun q h => by rw [List.mem_singleton.mp h]; exact Or.inr ⟨by decide, _, X.ws _ dw_x1037 rfl, X.2.2.2.2.2.1.2.2.2.2.2.2.1.1⟩) (by decide) (by decide) _ dw_x751 (List.mem_of_getElem? dw_x758) (fun q => ?_)
        refine e_astore (z := tw_cz z 1 6) (L' := [(4, .ref q), (0, .ref (b + 0)), (1, .int x1), (2, .int x2), (3, .int x3)]) X dL_pace_13 (by decide) rfl ?_
        refine e_ldcI (z := tw_cz z 1 6) X dL_pace_15 (v := (-2000000098 : Int32)) _ dw_x1033 ?_
        exact dw_ckp (by exact ⟨Nat.le_refl 1, Nat.le_refl 6⟩) (e_iret (z := z) X eB dL_pace_17 hret ⟨eMC, eMS⟩ hQ rfl rfl)
      ·
        intro hE; exact hE.elim
def dw_P_L_reached (n : Nat) (x1 : Int32) (x2 : Int32) (Y : dw_S) (Q : Int32 × dw_S → Prop) : Prop := pw_bc (tw_P_X11_reached n x1 x2 (dw_s Y)) (fun r => Q (r, Y)) (fun x => if x = "java/lang/IndexOutOfBoundsException" then Q ((-2000000097 : Int32), Y) else if x = "java/lang/IllegalArgumentException" then Q ((-2000000098 : Int32), Y) else False)
theorem dw_y_L_reached : tw_Mw yL_reached cL_reached 4 (some .int) [((0 : Nat), (6 : Nat), (7 : Nat), (50 : Nat)), ((0 : Nat), (6 : Nat), (11 : Nat), (40 : Nat))] 3 := ⟨List.mem_of_getElem? dw_x1605, List.mem_of_getElem? dw_x35, by decide +kernel, by decide +kernel, List.mem_of_getElem? dw_x1604⟩
set_option maxRecDepth 100000 in
set_option maxHeartbeats 4000000 in
theorem dw_m_L_reached {l : Launch} {b : Nat} {D : tw_G} {C : Nat → ClassId} {S : Nat → Nat} (hD : D.2 = []) {n : Nat} {x1 : Int32} {x2 : Int32} {Y : dw_S} {Q : Int32 × dw_S → Prop} (hst : l.stackTraces = false) (h : dw_P_L_reached n x1 x2 Y Q) : dw_MetW l b D C S yL_reached cL_reached 4 (some .int) [((0 : Nat), (6 : Nat), (7 : Nat), (50 : Nat)), ((0 : Nat), (6 : Nat), (11 : Nat), (40 : Nat))] ({ frames := 8, cells := 1, slots := 6, locals := 133 } : Room) [.ref (b + 0), .int x1, .int x2] Y (fun r : Int32 × dw_S => some (.int r.1)) (fun r => r.2) Q := by
  refine dw_metOfW (dw_P_L_reached n x1 x2 Y Q) h _ _ Q (by decide +kernel) (Nat.le_of_ble_eq_true rfl) ?_
  intro z el eB eD eC eS eR X hA hret htab hQ
  subst el eD eC eS
  have hb : tw_zB z ≤ b := Nat.le_of_eq eB
  have hfr : (tw_zR z).frames = 8 := by rw [eR]
  have hlo : (tw_zR z).locals = 133 := by rw [eR]
  have eMC : (tw_zR z).cells = 1 := by rw [eR]
  have eMS : (tw_zR z).slots = 6 := by rw [eR]
  have X : tw_X z cL_reached "TreasureWalkLaw" 4 := X
  show dw_Rf (tw_cz z 0 0) b _ Y 0 [(0, .ref (b + 0)), (1, .int x1), (2, .int x2)] []
  unfold dw_P_L_reached
  refine e_aload_n (z := tw_cz z 0 0) X dL_reached_0 rfl 0 rfl ?_
  refine e_iload_n (z := tw_cz z 0 0) X dL_reached_1 rfl 1 rfl ?_
  refine e_iload_n (z := tw_cz z 0 0) X dL_reached_2 rfl 2 rfl ?_
  refine e_bc (fun r hr => ?_) (fun x hx => ?_)
  ·
    refine dw_ckp (by exact ⟨Nat.le_of_ble_eq_true rfl, Nat.le_of_ble_eq_true rfl⟩) (e_cls1 (σ' := dw_s Y) (As := [.int x1, .int x2]) (z := tw_cz z 0 0) X hb ⟨rfl, rfl⟩ ⟨eMC, eMS⟩ dL_reached_3 (tw_m_X11_reached hr) tw_y_X11_reached tw_v_X11_reached _ dw_x1606 rfl ⟨rfl, rfl, tw_le hfr rfl, tw_le hlo rfl⟩ (Nat.le_of_ble_eq_true rfl) rfl ?_)
    exact dw_ckp (by exact ⟨Nat.zero_le 1, Nat.zero_le 6⟩) (e_iret (z := z) X eB dL_reached_6 hret ⟨eMC, eMS⟩ hQ rfl rfl)
  ·
    have hM := tw_mx_X11_reached (l := tw_zl z) (B := b) (D := ((tw_zD z).1, dw_wl b (tw_zC z) Y)) (C := tw_zC z) (S := tw_zS z) hst hx
    refine e_ite (fun he => ?_) (fun he => ?_)
    ·
      subst he
      refine e_clsX (z := tw_cz z 0 0) (st := []) (As := [.int x1, .int x2]) X hb dL_reached_3 hM tw_y_X11_reached tw_v_X11_reached _ dw_x1606 rfl ⟨rfl, rfl, tw_le hfr rfl, tw_le hlo rfl⟩ ⟨by show 0 + 1 ≤ (tw_zR z).cells; rw [eMC]; exact Nat.le_refl _, by show 0 + 6 ≤ (tw_zR z).slots; rw [eMS]; exact Nat.le_refl _⟩ (Nat.le_of_ble_eq_true rfl) rfl [] ⟨0, 6, 7, 50⟩ [⟨0, 6, 11, 40⟩] htab (fun q h => nomatch h) (by decide) (by decide) _ dw_x1037 (List.mem_of_getElem? dw_x1048) (fun q => ?_)
      refine e_astore_n (z := tw_cz z 1 6) (L' := [(3, .ref q), (0, .ref (b + 0)), (1, .int x1), (2, .int x2)]) X dL_reached_7 rfl (by decide) rfl ?_
      refine e_ldcI (z := tw_cz z 1 6) X dL_reached_8 (v := (-2000000097 : Int32)) _ dw_x1070 ?_
      exact dw_ckp (by exact ⟨Nat.le_refl 1, Nat.le_refl 6⟩) (e_iret (z := z) X eB dL_reached_10 hret ⟨eMC, eMS⟩ hQ rfl rfl)
    ·
      refine e_ite (fun he => ?_) (fun he => ?_)
      ·
        subst he
        refine e_clsX (z := tw_cz z 0 0) (st := []) (As := [.int x1, .int x2]) X hb dL_reached_3 hM tw_y_X11_reached tw_v_X11_reached _ dw_x1606 rfl ⟨rfl, rfl, tw_le hfr rfl, tw_le hlo rfl⟩ ⟨by show 0 + 1 ≤ (tw_zR z).cells; rw [eMC]; exact Nat.le_refl _, by show 0 + 6 ≤ (tw_zR z).slots; rw [eMS]; exact Nat.le_refl _⟩ (Nat.le_of_ble_eq_true rfl) rfl [⟨0, 6, 7, 50⟩] ⟨0, 6, 11, 40⟩ [] htab (fun q h => by rw [List.mem_singleton.mp h]; exact Or.inr ⟨by decide, _, X.ws _ dw_x1037 rfl, X.2.2.2.2.2.1.2.2.2.2.2.2.1.1⟩) (by decide) (by decide) _ dw_x751 (List.mem_of_getElem? dw_x758) (fun q => ?_)
        refine e_astore_n (z := tw_cz z 1 6) (L' := [(3, .ref q), (0, .ref (b + 0)), (1, .int x1), (2, .int x2)]) X dL_reached_11 rfl (by decide) rfl ?_
        refine e_ldcI (z := tw_cz z 1 6) X dL_reached_12 (v := (-2000000098 : Int32)) _ dw_x1033 ?_
        exact dw_ckp (by exact ⟨Nat.le_refl 1, Nat.le_refl 6⟩) (e_iret (z := z) X eB dL_reached_14 hret ⟨eMC, eMS⟩ hQ rfl rfl)
      ·
        intro hE; exact hE.elim
def dw_P_L_why (n : Nat) (x1 : Int32) (x2 : Int32) (Y : dw_S) (Q : Int32 × dw_S → Prop) : Prop := pw_bc (tw_P_X11_why n x1 x2 (dw_s Y)) (fun r => Q (r, Y)) (fun x => if x = "java/lang/IndexOutOfBoundsException" then Q ((-2000000097 : Int32), Y) else False)
theorem dw_y_L_why : tw_Mw yL_why cL_why 4 (some .int) [((0 : Nat), (6 : Nat), (7 : Nat), (50 : Nat))] 3 := ⟨List.mem_of_getElem? dw_x1611, List.mem_of_getElem? dw_x35, by decide +kernel, by decide +kernel, List.mem_of_getElem? dw_x1610⟩
set_option maxRecDepth 100000 in
set_option maxHeartbeats 4000000 in
theorem dw_m_L_why {l : Launch} {b : Nat} {D : tw_G} {C : Nat → ClassId} {S : Nat → Nat} (hD : D.2 = []) {n : Nat} {x1 : Int32} {x2 : Int32} {Y : dw_S} {Q : Int32 × dw_S → Prop} (hst : l.stackTraces = false) (h : dw_P_L_why n x1 x2 Y Q) : dw_MetW l b D C S yL_why cL_why 4 (some .int) [((0 : Nat), (6 : Nat), (7 : Nat), (50 : Nat))] ({ frames := 8, cells := 1, slots := 6, locals := 135 } : Room) [.ref (b + 0), .int x1, .int x2] Y (fun r : Int32 × dw_S => some (.int r.1)) (fun r => r.2) Q := by
  refine dw_metOfW (dw_P_L_why n x1 x2 Y Q) h _ _ Q (by decide +kernel) (Nat.le_of_ble_eq_true rfl) ?_
  intro z el eB eD eC eS eR X hA hret htab hQ
  subst el eD eC eS
  have hb : tw_zB z ≤ b := Nat.le_of_eq eB
  have hfr : (tw_zR z).frames = 8 := by rw [eR]
  have hlo : (tw_zR z).locals = 135 := by rw [eR]
  have eMC : (tw_zR z).cells = 1 := by rw [eR]
  have eMS : (tw_zR z).slots = 6 := by rw [eR]
  have X : tw_X z cL_why "TreasureWalkLaw" 4 := X
  show dw_Rf (tw_cz z 0 0) b _ Y 0 [(0, .ref (b + 0)), (1, .int x1), (2, .int x2)] []
  unfold dw_P_L_why
  refine e_aload_n (z := tw_cz z 0 0) X dL_why_0 rfl 0 rfl ?_
  refine e_iload_n (z := tw_cz z 0 0) X dL_why_1 rfl 1 rfl ?_
  refine e_iload_n (z := tw_cz z 0 0) X dL_why_2 rfl 2 rfl ?_
  refine e_bc (fun r hr => ?_) (fun x hx => ?_)
  ·
    refine dw_ckp (by exact ⟨Nat.le_of_ble_eq_true rfl, Nat.le_of_ble_eq_true rfl⟩) (e_cls1 (σ' := dw_s Y) (As := [.int x1, .int x2]) (z := tw_cz z 0 0) X hb ⟨rfl, rfl⟩ ⟨eMC, eMS⟩ dL_why_3 (tw_m_X11_why hr) tw_y_X11_why tw_v_X11_why _ dw_x1612 rfl ⟨rfl, rfl, tw_le hfr rfl, tw_le hlo rfl⟩ (Nat.le_of_ble_eq_true rfl) rfl ?_)
    exact dw_ckp (by exact ⟨Nat.zero_le 1, Nat.zero_le 6⟩) (e_iret (z := z) X eB dL_why_6 hret ⟨eMC, eMS⟩ hQ rfl rfl)
  ·
    have hM := tw_mx_X11_why (l := tw_zl z) (B := b) (D := ((tw_zD z).1, dw_wl b (tw_zC z) Y)) (C := tw_zC z) (S := tw_zS z) hst hx
    refine e_ite (fun he => ?_) (fun he => ?_)
    ·
      subst he
      refine e_clsX (z := tw_cz z 0 0) (st := []) (As := [.int x1, .int x2]) X hb dL_why_3 hM tw_y_X11_why tw_v_X11_why _ dw_x1612 rfl ⟨rfl, rfl, tw_le hfr rfl, tw_le hlo rfl⟩ ⟨by show 0 + 1 ≤ (tw_zR z).cells; rw [eMC]; exact Nat.le_refl _, by show 0 + 6 ≤ (tw_zR z).slots; rw [eMS]; exact Nat.le_refl _⟩ (Nat.le_of_ble_eq_true rfl) rfl [] ⟨0, 6, 7, 50⟩ [] htab (fun q h => nomatch h) (by decide) (by decide) _ dw_x1037 (List.mem_of_getElem? dw_x1048) (fun q => ?_)
      refine e_astore_n (z := tw_cz z 1 6) (L' := [(3, .ref q), (0, .ref (b + 0)), (1, .int x1), (2, .int x2)]) X dL_why_7 rfl (by decide) rfl ?_
      refine e_ldcI (z := tw_cz z 1 6) X dL_why_8 (v := (-2000000097 : Int32)) _ dw_x1070 ?_
      exact dw_ckp (by exact ⟨Nat.le_refl 1, Nat.le_refl 6⟩) (e_iret (z := z) X eB dL_why_10 hret ⟨eMC, eMS⟩ hQ rfl rfl)
    ·
      intro hE; exact hE.elim
def dw_P_L_walk (n : Nat) (x1 : Int32) (x2 : Int32) (x3 : Int32) (x4 : Int32) (Y : dw_S) (Q : Int32 × dw_S → Prop) : Prop := pw_bc (tw_P_X11_walk n x1 x2 x3 x4 (dw_s Y)) (fun r => Q (r.1, (dw_cs Y r.2))) (fun x => if x = "java/lang/IndexOutOfBoundsException" then Q ((-2000000097 : Int32), Y) else if x = "java/util/NoSuchElementException" then Q ((-2000000100 : Int32), Y) else False)
theorem dw_y_L_walk : tw_Mw yL_walk cL_walk 6 (some .int) [((0 : Nat), (9 : Nat), (10 : Nat), (50 : Nat)), ((0 : Nat), (9 : Nat), (15 : Nat), (71 : Nat))] 5 := ⟨List.mem_of_getElem? dw_x1073, List.mem_of_getElem? dw_x35, by decide +kernel, by decide +kernel, List.mem_of_getElem? dw_x1072⟩
set_option maxRecDepth 100000 in
set_option maxHeartbeats 4000000 in
theorem dw_m_L_walk {l : Launch} {b : Nat} {D : tw_G} {C : Nat → ClassId} {S : Nat → Nat} (hD : D.2 = []) {n : Nat} {x1 : Int32} {x2 : Int32} {x3 : Int32} {x4 : Int32} {Y : dw_S} {Q : Int32 × dw_S → Prop} (hst : l.stackTraces = false) (h : dw_P_L_walk n x1 x2 x3 x4 Y Q) : dw_MetW l b D C S yL_walk cL_walk 6 (some .int) [((0 : Nat), (9 : Nat), (10 : Nat), (50 : Nat)), ((0 : Nat), (9 : Nat), (15 : Nat), (71 : Nat))] ({ frames := 8, cells := 1, slots := 6, locals := 172 } : Room) [.ref (b + 0), .int x1, .int x2, .int x3, .int x4] Y (fun r : Int32 × dw_S => some (.int r.1)) (fun r => r.2) Q := by
  refine dw_metOfW (dw_P_L_walk n x1 x2 x3 x4 Y Q) h _ _ Q (by decide +kernel) (Nat.le_of_ble_eq_true rfl) ?_
  intro z el eB eD eC eS eR X hA hret htab hQ
  subst el eD eC eS
  have hb : tw_zB z ≤ b := Nat.le_of_eq eB
  have hfr : (tw_zR z).frames = 8 := by rw [eR]
  have hlo : (tw_zR z).locals = 172 := by rw [eR]
  have eMC : (tw_zR z).cells = 1 := by rw [eR]
  have eMS : (tw_zR z).slots = 6 := by rw [eR]
  have X : tw_X z cL_walk "TreasureWalkLaw" 6 := X
  show dw_Rf (tw_cz z 0 0) b _ Y 0 [(0, .ref (b + 0)), (1, .int x1), (2, .int x2), (3, .int x3), (4, .int x4)] []
  unfold dw_P_L_walk
  refine e_aload_n (z := tw_cz z 0 0) X dL_walk_0 rfl 0 rfl ?_
  refine e_iload_n (z := tw_cz z 0 0) X dL_walk_1 rfl 1 rfl ?_
  refine e_iload_n (z := tw_cz z 0 0) X dL_walk_2 rfl 2 rfl ?_
  refine e_iload_n (z := tw_cz z 0 0) X dL_walk_3 rfl 3 rfl ?_
  refine e_iload (z := tw_cz z 0 0) X dL_walk_4 4 rfl ?_
  refine e_bc (fun r hr => ?_) (fun x hx => ?_)
  ·
    refine dw_ckp (by exact ⟨Nat.le_of_ble_eq_true rfl, Nat.le_of_ble_eq_true rfl⟩) (e_cls1 (σ' := r.2) (As := [.int x1, .int x2, .int x3, .int x4]) (z := tw_cz z 0 0) X hb ⟨rfl, rfl⟩ ⟨eMC, eMS⟩ dL_walk_6 (tw_m_X11_walk hr) tw_y_X11_walk tw_v_X11_walk _ dw_x1075 rfl ⟨rfl, rfl, tw_le hfr rfl, tw_le hlo rfl⟩ (Nat.le_of_ble_eq_true rfl) rfl ?_)
    exact dw_ckp (by exact ⟨Nat.zero_le 1, Nat.zero_le 6⟩) (e_iret (z := z) X eB dL_walk_9 hret ⟨eMC, eMS⟩ hQ rfl rfl)
  ·
    have hM := tw_mx_X11_walk (l := tw_zl z) (B := b) (D := ((tw_zD z).1, dw_wl b (tw_zC z) Y)) (C := tw_zC z) (S := tw_zS z) hst hx
    refine e_ite (fun he => ?_) (fun he => ?_)
    ·
      subst he
      refine e_clsX (z := tw_cz z 0 0) (st := []) (As := [.int x1, .int x2, .int x3, .int x4]) X hb dL_walk_6 hM tw_y_X11_walk tw_v_X11_walk _ dw_x1075 rfl ⟨rfl, rfl, tw_le hfr rfl, tw_le hlo rfl⟩ ⟨by show 0 + 1 ≤ (tw_zR z).cells; rw [eMC]; exact Nat.le_refl _, by show 0 + 6 ≤ (tw_zR z).slots; rw [eMS]; exact Nat.le_refl _⟩ (Nat.le_of_ble_eq_true rfl) rfl [] ⟨0, 9, 10, 50⟩ [⟨0, 9, 15, 71⟩] htab (fun q h => nomatch h) (by decide) (by decide) _ dw_x1037 (List.mem_of_getElem? dw_x1048) (fun q => ?_)
      refine e_astore (z := tw_cz z 1 6) (L' := [(5, .ref q), (0, .ref (b + 0)), (1, .int x1), (2, .int x2), (3, .int x3), (4, .int x4)]) X dL_walk_10 (by decide) rfl ?_
      refine e_ldcI (z := tw_cz z 1 6) X dL_walk_12 (v := (-2000000097 : Int32)) _ dw_x1070 ?_
      exact dw_ckp (by exact ⟨Nat.le_refl 1, Nat.le_refl 6⟩) (e_iret (z := z) X eB dL_walk_14 hret ⟨eMC, eMS⟩ hQ rfl rfl)
    ·
      refine e_ite (fun he => ?_) (fun he => ?_)
      ·
        subst he
        refine e_clsX (z := tw_cz z 0 0) (st := []) (As := [.int x1, .int x2, .int x3, .int x4]) X hb dL_walk_6 hM tw_y_X11_walk tw_v_X11_walk _ dw_x1075 rfl ⟨rfl, rfl, tw_le hfr rfl, tw_le hlo rfl⟩ ⟨by show 0 + 1 ≤ (tw_zR z).cells; rw [eMC]; exact Nat.le_refl _, by show 0 + 6 ≤ (tw_zR z).slots; rw [eMS]; exact Nat.le_refl _⟩ (Nat.le_of_ble_eq_true rfl) rfl [⟨0, 9, 10, 50⟩] ⟨0, 9, 15, 71⟩ [] htab (fun q h => by rw [List.mem_singleton.mp h]; exact Or.inr ⟨by decide, _, X.ws _ dw_x1037 rfl, X.2.2.2.2.2.1.2.2.2.2.2.2.1.2⟩) (by decide) (by decide) _ dw_x1074 (List.mem_of_getElem? dw_x1092) (fun q => ?_)
        refine e_astore (z := tw_cz z 1 6) (L' := [(5, .ref q), (0, .ref (b + 0)), (1, .int x1), (2, .int x2), (3, .int x3), (4, .int x4)]) X dL_walk_15 (by decide) rfl ?_
        refine e_ldcI (z := tw_cz z 1 6) X dL_walk_17 (v := (-2000000100 : Int32)) _ dw_x1126 ?_
        exact dw_ckp (by exact ⟨Nat.le_refl 1, Nat.le_refl 6⟩) (e_iret (z := z) X eB dL_walk_19 hret ⟨eMC, eMS⟩ hQ rfl rfl)
      ·
        intro hE; exact hE.elim
def dw_P_L_starts (n : Nat) (x1 : Int32) (x2 : Int32) (x3 : Int32) (Y : dw_S) (Q : Int32 × dw_S → Prop) : Prop := pw_bc (tw_P_X11_starts n x1 x2 x3 (dw_s Y)) (fun r => Q (r.1, (dw_cs Y r.2))) (fun x => if x = "java/lang/IndexOutOfBoundsException" then Q ((-2000000097 : Int32), Y) else False)
theorem dw_y_L_starts : tw_Mw yL_starts cL_starts 5 (some .int) [((0 : Nat), (7 : Nat), (8 : Nat), (50 : Nat))] 4 := ⟨List.mem_of_getElem? dw_x1129, List.mem_of_getElem? dw_x35, by decide +kernel, by decide +kernel, List.mem_of_getElem? dw_x1128⟩
set_option maxRecDepth 100000 in
set_option maxHeartbeats 4000000 in
theorem dw_m_L_starts {l : Launch} {b : Nat} {D : tw_G} {C : Nat → ClassId} {S : Nat → Nat} (hD : D.2 = []) {n : Nat} {x1 : Int32} {x2 : Int32} {x3 : Int32} {Y : dw_S} {Q : Int32 × dw_S → Prop} (hst : l.stackTraces = false) (h : dw_P_L_starts n x1 x2 x3 Y Q) : dw_MetW l b D C S yL_starts cL_starts 5 (some .int) [((0 : Nat), (7 : Nat), (8 : Nat), (50 : Nat))] ({ frames := 8, cells := 1, slots := 6, locals := 169 } : Room) [.ref (b + 0), .int x1, .int x2, .int x3] Y (fun r : Int32 × dw_S => some (.int r.1)) (fun r => r.2) Q := by
  refine dw_metOfW (dw_P_L_starts n x1 x2 x3 Y Q) h _ _ Q (by decide +kernel) (Nat.le_of_ble_eq_true rfl) ?_
  intro z el eB eD eC eS eR X hA hret htab hQ
  subst el eD eC eS
  have hb : tw_zB z ≤ b := Nat.le_of_eq eB
  have hfr : (tw_zR z).frames = 8 := by rw [eR]
  have hlo : (tw_zR z).locals = 169 := by rw [eR]
  have eMC : (tw_zR z).cells = 1 := by rw [eR]
  have eMS : (tw_zR z).slots = 6 := by rw [eR]
  have X : tw_X z cL_starts "TreasureWalkLaw" 5 := X
  show dw_Rf (tw_cz z 0 0) b _ Y 0 [(0, .ref (b + 0)), (1, .int x1), (2, .int x2), (3, .int x3)] []
  unfold dw_P_L_starts
  refine e_aload_n (z := tw_cz z 0 0) X dL_starts_0 rfl 0 rfl ?_
  refine e_iload_n (z := tw_cz z 0 0) X dL_starts_1 rfl 1 rfl ?_
  refine e_iload_n (z := tw_cz z 0 0) X dL_starts_2 rfl 2 rfl ?_
  refine e_iload_n (z := tw_cz z 0 0) X dL_starts_3 rfl 3 rfl ?_
  refine e_bc (fun r hr => ?_) (fun x hx => ?_)
  ·
    refine dw_ckp (by exact ⟨Nat.le_of_ble_eq_true rfl, Nat.le_of_ble_eq_true rfl⟩) (e_cls1 (σ' := r.2) (As := [.int x1, .int x2, .int x3]) (z := tw_cz z 0 0) X hb ⟨rfl, rfl⟩ ⟨eMC, eMS⟩ dL_starts_4 (tw_m_X11_starts hr) tw_y_X11_starts tw_v_X11_starts _ dw_x1130 rfl ⟨rfl, rfl, tw_le hfr rfl, tw_le hlo rfl⟩ (Nat.le_of_ble_eq_true rfl) rfl ?_)
    exact dw_ckp (by exact ⟨Nat.zero_le 1, Nat.zero_le 6⟩) (e_iret (z := z) X eB dL_starts_7 hret ⟨eMC, eMS⟩ hQ rfl rfl)
  ·
    have hM := tw_mx_X11_starts (l := tw_zl z) (B := b) (D := ((tw_zD z).1, dw_wl b (tw_zC z) Y)) (C := tw_zC z) (S := tw_zS z) hst hx
    refine e_ite (fun he => ?_) (fun he => ?_)
    ·
      subst he
      refine e_clsX (z := tw_cz z 0 0) (st := []) (As := [.int x1, .int x2, .int x3]) X hb dL_starts_4 hM tw_y_X11_starts tw_v_X11_starts _ dw_x1130 rfl ⟨rfl, rfl, tw_le hfr rfl, tw_le hlo rfl⟩ ⟨by show 0 + 1 ≤ (tw_zR z).cells; rw [eMC]; exact Nat.le_refl _, by show 0 + 6 ≤ (tw_zR z).slots; rw [eMS]; exact Nat.le_refl _⟩ (Nat.le_of_ble_eq_true rfl) rfl [] ⟨0, 7, 8, 50⟩ [] htab (fun q h => nomatch h) (by decide) (by decide) _ dw_x1037 (List.mem_of_getElem? dw_x1048) (fun q => ?_)
      refine e_astore (z := tw_cz z 1 6) (L' := [(4, .ref q), (0, .ref (b + 0)), (1, .int x1), (2, .int x2), (3, .int x3)]) X dL_starts_8 (by decide) rfl ?_
      refine e_ldcI (z := tw_cz z 1 6) X dL_starts_10 (v := (-2000000097 : Int32)) _ dw_x1070 ?_
      exact dw_ckp (by exact ⟨Nat.le_refl 1, Nat.le_refl 6⟩) (e_iret (z := z) X eB dL_starts_12 hret ⟨eMC, eMS⟩ hQ rfl rfl)
    ·
      intro hE; exact hE.elim
def dw_P_L_distance (n : Nat) (x1 : Int32) (x2 : Int32) (Y : dw_S) (Q : Int32 × dw_S → Prop) : Prop := pw_bc (tw_P_X11_distance n x1 x2 (dw_s Y)) (fun r => Q (r.1, (dw_cs Y r.2))) (fun x => if x = "java/lang/IndexOutOfBoundsException" then Q ((-2000000097 : Int32), Y) else False)
theorem dw_y_L_distance : tw_Mw yL_distance cL_distance 4 (some .int) [((0 : Nat), (6 : Nat), (7 : Nat), (50 : Nat))] 3 := ⟨List.mem_of_getElem? dw_x1140, List.mem_of_getElem? dw_x35, by decide +kernel, by decide +kernel, List.mem_of_getElem? dw_x1139⟩
set_option maxRecDepth 100000 in
set_option maxHeartbeats 4000000 in
theorem dw_m_L_distance {l : Launch} {b : Nat} {D : tw_G} {C : Nat → ClassId} {S : Nat → Nat} (hD : D.2 = []) {n : Nat} {x1 : Int32} {x2 : Int32} {Y : dw_S} {Q : Int32 × dw_S → Prop} (hst : l.stackTraces = false) (h : dw_P_L_distance n x1 x2 Y Q) : dw_MetW l b D C S yL_distance cL_distance 4 (some .int) [((0 : Nat), (6 : Nat), (7 : Nat), (50 : Nat))] ({ frames := 8, cells := 1, slots := 6, locals := 135 } : Room) [.ref (b + 0), .int x1, .int x2] Y (fun r : Int32 × dw_S => some (.int r.1)) (fun r => r.2) Q := by
  refine dw_metOfW (dw_P_L_distance n x1 x2 Y Q) h _ _ Q (by decide +kernel) (Nat.le_of_ble_eq_true rfl) ?_
  intro z el eB eD eC eS eR X hA hret htab hQ
  subst el eD eC eS
  have hb : tw_zB z ≤ b := Nat.le_of_eq eB
  have hfr : (tw_zR z).frames = 8 := by rw [eR]
  have hlo : (tw_zR z).locals = 135 := by rw [eR]
  have eMC : (tw_zR z).cells = 1 := by rw [eR]
  have eMS : (tw_zR z).slots = 6 := by rw [eR]
  have X : tw_X z cL_distance "TreasureWalkLaw" 4 := X
  show dw_Rf (tw_cz z 0 0) b _ Y 0 [(0, .ref (b + 0)), (1, .int x1), (2, .int x2)] []
  unfold dw_P_L_distance
  refine e_aload_n (z := tw_cz z 0 0) X dL_distance_0 rfl 0 rfl ?_
  refine e_iload_n (z := tw_cz z 0 0) X dL_distance_1 rfl 1 rfl ?_
  refine e_iload_n (z := tw_cz z 0 0) X dL_distance_2 rfl 2 rfl ?_
  refine e_bc (fun r hr => ?_) (fun x hx => ?_)
  ·
    refine dw_ckp (by exact ⟨Nat.le_of_ble_eq_true rfl, Nat.le_of_ble_eq_true rfl⟩) (e_cls1 (σ' := r.2) (As := [.int x1, .int x2]) (z := tw_cz z 0 0) X hb ⟨rfl, rfl⟩ ⟨eMC, eMS⟩ dL_distance_3 (tw_m_X11_distance hr) tw_y_X11_distance tw_v_X11_distance _ dw_x1141 rfl ⟨rfl, rfl, tw_le hfr rfl, tw_le hlo rfl⟩ (Nat.le_of_ble_eq_true rfl) rfl ?_)
    exact dw_ckp (by exact ⟨Nat.zero_le 1, Nat.zero_le 6⟩) (e_iret (z := z) X eB dL_distance_6 hret ⟨eMC, eMS⟩ hQ rfl rfl)
  ·
    have hM := tw_mx_X11_distance (l := tw_zl z) (B := b) (D := ((tw_zD z).1, dw_wl b (tw_zC z) Y)) (C := tw_zC z) (S := tw_zS z) hst hx
    refine e_ite (fun he => ?_) (fun he => ?_)
    ·
      subst he
      refine e_clsX (z := tw_cz z 0 0) (st := []) (As := [.int x1, .int x2]) X hb dL_distance_3 hM tw_y_X11_distance tw_v_X11_distance _ dw_x1141 rfl ⟨rfl, rfl, tw_le hfr rfl, tw_le hlo rfl⟩ ⟨by show 0 + 1 ≤ (tw_zR z).cells; rw [eMC]; exact Nat.le_refl _, by show 0 + 6 ≤ (tw_zR z).slots; rw [eMS]; exact Nat.le_refl _⟩ (Nat.le_of_ble_eq_true rfl) rfl [] ⟨0, 6, 7, 50⟩ [] htab (fun q h => nomatch h) (by decide) (by decide) _ dw_x1037 (List.mem_of_getElem? dw_x1048) (fun q => ?_)
      refine e_astore_n (z := tw_cz z 1 6) (L' := [(3, .ref q), (0, .ref (b + 0)), (1, .int x1), (2, .int x2)]) X dL_distance_7 rfl (by decide) rfl ?_
      refine e_ldcI (z := tw_cz z 1 6) X dL_distance_8 (v := (-2000000097 : Int32)) _ dw_x1070 ?_
      exact dw_ckp (by exact ⟨Nat.le_refl 1, Nat.le_refl 6⟩) (e_iret (z := z) X eB dL_distance_10 hret ⟨eMC, eMS⟩ hQ rfl rfl)
    ·
      intro hE; exact hE.elim
def dw_P_L_part (n : Nat) (x1 : Int32) (x2 : Int32) (Y : dw_S) (Q : Int32 × dw_S → Prop) : Prop := pw_bc (tw_P_X11_part n x1 x2 (dw_s Y)) (fun r => Q (r.1, (dw_cs Y r.2))) (fun x => if x = "java/lang/IndexOutOfBoundsException" then Q ((-2000000097 : Int32), Y) else False)
theorem dw_y_L_part : tw_Mw yL_part cL_part 4 (some .int) [((0 : Nat), (6 : Nat), (7 : Nat), (50 : Nat))] 3 := ⟨List.mem_of_getElem? dw_x1168, List.mem_of_getElem? dw_x35, by decide +kernel, by decide +kernel, List.mem_of_getElem? dw_x1167⟩
set_option maxRecDepth 100000 in
set_option maxHeartbeats 4000000 in
theorem dw_m_L_part {l : Launch} {b : Nat} {D : tw_G} {C : Nat → ClassId} {S : Nat → Nat} (hD : D.2 = []) {n : Nat} {x1 : Int32} {x2 : Int32} {Y : dw_S} {Q : Int32 × dw_S → Prop} (hst : l.stackTraces = false) (h : dw_P_L_part n x1 x2 Y Q) : dw_MetW l b D C S yL_part cL_part 4 (some .int) [((0 : Nat), (6 : Nat), (7 : Nat), (50 : Nat))] ({ frames := 8, cells := 1, slots := 6, locals := 166 } : Room) [.ref (b + 0), .int x1, .int x2] Y (fun r : Int32 × dw_S => some (.int r.1)) (fun r => r.2) Q := by
  refine dw_metOfW (dw_P_L_part n x1 x2 Y Q) h _ _ Q (by decide +kernel) (Nat.le_of_ble_eq_true rfl) ?_
  intro z el eB eD eC eS eR X hA hret htab hQ
  subst el eD eC eS
  have hb : tw_zB z ≤ b := Nat.le_of_eq eB
  have hfr : (tw_zR z).frames = 8 := by rw [eR]
  have hlo : (tw_zR z).locals = 166 := by rw [eR]
  have eMC : (tw_zR z).cells = 1 := by rw [eR]
  have eMS : (tw_zR z).slots = 6 := by rw [eR]
  have X : tw_X z cL_part "TreasureWalkLaw" 4 := X
  show dw_Rf (tw_cz z 0 0) b _ Y 0 [(0, .ref (b + 0)), (1, .int x1), (2, .int x2)] []
  unfold dw_P_L_part
  refine e_aload_n (z := tw_cz z 0 0) X dL_part_0 rfl 0 rfl ?_
  refine e_iload_n (z := tw_cz z 0 0) X dL_part_1 rfl 1 rfl ?_
  refine e_iload_n (z := tw_cz z 0 0) X dL_part_2 rfl 2 rfl ?_
  refine e_bc (fun r hr => ?_) (fun x hx => ?_)
  ·
    refine dw_ckp (by exact ⟨Nat.le_of_ble_eq_true rfl, Nat.le_of_ble_eq_true rfl⟩) (e_cls1 (σ' := r.2) (As := [.int x1, .int x2]) (z := tw_cz z 0 0) X hb ⟨rfl, rfl⟩ ⟨eMC, eMS⟩ dL_part_3 (tw_m_X11_part hr) tw_y_X11_part tw_v_X11_part _ dw_x1169 rfl ⟨rfl, rfl, tw_le hfr rfl, tw_le hlo rfl⟩ (Nat.le_of_ble_eq_true rfl) rfl ?_)
    exact dw_ckp (by exact ⟨Nat.zero_le 1, Nat.zero_le 6⟩) (e_iret (z := z) X eB dL_part_6 hret ⟨eMC, eMS⟩ hQ rfl rfl)
  ·
    have hM := tw_mx_X11_part (l := tw_zl z) (B := b) (D := ((tw_zD z).1, dw_wl b (tw_zC z) Y)) (C := tw_zC z) (S := tw_zS z) hst hx
    refine e_ite (fun he => ?_) (fun he => ?_)
    ·
      subst he
      refine e_clsX (z := tw_cz z 0 0) (st := []) (As := [.int x1, .int x2]) X hb dL_part_3 hM tw_y_X11_part tw_v_X11_part _ dw_x1169 rfl ⟨rfl, rfl, tw_le hfr rfl, tw_le hlo rfl⟩ ⟨by show 0 + 1 ≤ (tw_zR z).cells; rw [eMC]; exact Nat.le_refl _, by show 0 + 6 ≤ (tw_zR z).slots; rw [eMS]; exact Nat.le_refl _⟩ (Nat.le_of_ble_eq_true rfl) rfl [] ⟨0, 6, 7, 50⟩ [] htab (fun q h => nomatch h) (by decide) (by decide) _ dw_x1037 (List.mem_of_getElem? dw_x1048) (fun q => ?_)
      refine e_astore_n (z := tw_cz z 1 6) (L' := [(3, .ref q), (0, .ref (b + 0)), (1, .int x1), (2, .int x2)]) X dL_part_7 rfl (by decide) rfl ?_
      refine e_ldcI (z := tw_cz z 1 6) X dL_part_8 (v := (-2000000097 : Int32)) _ dw_x1070 ?_
      exact dw_ckp (by exact ⟨Nat.le_refl 1, Nat.le_refl 6⟩) (e_iret (z := z) X eB dL_part_10 hret ⟨eMC, eMS⟩ hQ rfl rfl)
    ·
      intro hE; exact hE.elim
def dw_P_L_moveTo (n : Nat) (x1 : Int32) (x2 : Int32) (Y : dw_S) (Q : Int32 × dw_S → Prop) : Prop := pw_bc (tw_P_X11_moveTo n x1 x2 (dw_s Y)) (fun r => Q (r.1, (dw_cs Y r.2))) (fun x => if x = "java/lang/IndexOutOfBoundsException" then Q ((-2000000097 : Int32), Y) else False)
theorem dw_y_L_moveTo : tw_Mw yL_moveTo cL_moveTo 4 (some .int) [((0 : Nat), (6 : Nat), (7 : Nat), (50 : Nat))] 3 := ⟨List.mem_of_getElem? dw_x1202, List.mem_of_getElem? dw_x35, by decide +kernel, by decide +kernel, List.mem_of_getElem? dw_x1201⟩
set_option maxRecDepth 100000 in
set_option maxHeartbeats 4000000 in
theorem dw_m_L_moveTo {l : Launch} {b : Nat} {D : tw_G} {C : Nat → ClassId} {S : Nat → Nat} (hD : D.2 = []) {n : Nat} {x1 : Int32} {x2 : Int32} {Y : dw_S} {Q : Int32 × dw_S → Prop} (hst : l.stackTraces = false) (h : dw_P_L_moveTo n x1 x2 Y Q) : dw_MetW l b D C S yL_moveTo cL_moveTo 4 (some .int) [((0 : Nat), (6 : Nat), (7 : Nat), (50 : Nat))] ({ frames := 8, cells := 1, slots := 6, locals := 170 } : Room) [.ref (b + 0), .int x1, .int x2] Y (fun r : Int32 × dw_S => some (.int r.1)) (fun r => r.2) Q := by
  refine dw_metOfW (dw_P_L_moveTo n x1 x2 Y Q) h _ _ Q (by decide +kernel) (Nat.le_of_ble_eq_true rfl) ?_
  intro z el eB eD eC eS eR X hA hret htab hQ
  subst el eD eC eS
  have hb : tw_zB z ≤ b := Nat.le_of_eq eB
  have hfr : (tw_zR z).frames = 8 := by rw [eR]
  have hlo : (tw_zR z).locals = 170 := by rw [eR]
  have eMC : (tw_zR z).cells = 1 := by rw [eR]
  have eMS : (tw_zR z).slots = 6 := by rw [eR]
  have X : tw_X z cL_moveTo "TreasureWalkLaw" 4 := X
  show dw_Rf (tw_cz z 0 0) b _ Y 0 [(0, .ref (b + 0)), (1, .int x1), (2, .int x2)] []
  unfold dw_P_L_moveTo
  refine e_aload_n (z := tw_cz z 0 0) X dL_moveTo_0 rfl 0 rfl ?_
  refine e_iload_n (z := tw_cz z 0 0) X dL_moveTo_1 rfl 1 rfl ?_
  refine e_iload_n (z := tw_cz z 0 0) X dL_moveTo_2 rfl 2 rfl ?_
  refine e_bc (fun r hr => ?_) (fun x hx => ?_)
  ·
    refine dw_ckp (by exact ⟨Nat.le_of_ble_eq_true rfl, Nat.le_of_ble_eq_true rfl⟩) (e_cls1 (σ' := r.2) (As := [.int x1, .int x2]) (z := tw_cz z 0 0) X hb ⟨rfl, rfl⟩ ⟨eMC, eMS⟩ dL_moveTo_3 (tw_m_X11_moveTo hr) tw_y_X11_moveTo tw_v_X11_moveTo _ dw_x1203 rfl ⟨rfl, rfl, tw_le hfr rfl, tw_le hlo rfl⟩ (Nat.le_of_ble_eq_true rfl) rfl ?_)
    exact dw_ckp (by exact ⟨Nat.zero_le 1, Nat.zero_le 6⟩) (e_iret (z := z) X eB dL_moveTo_6 hret ⟨eMC, eMS⟩ hQ rfl rfl)
  ·
    have hM := tw_mx_X11_moveTo (l := tw_zl z) (B := b) (D := ((tw_zD z).1, dw_wl b (tw_zC z) Y)) (C := tw_zC z) (S := tw_zS z) hst hx
    refine e_ite (fun he => ?_) (fun he => ?_)
    ·
      subst he
      refine e_clsX (z := tw_cz z 0 0) (st := []) (As := [.int x1, .int x2]) X hb dL_moveTo_3 hM tw_y_X11_moveTo tw_v_X11_moveTo _ dw_x1203 rfl ⟨rfl, rfl, tw_le hfr rfl, tw_le hlo rfl⟩ ⟨by show 0 + 1 ≤ (tw_zR z).cells; rw [eMC]; exact Nat.le_refl _, by show 0 + 6 ≤ (tw_zR z).slots; rw [eMS]; exact Nat.le_refl _⟩ (Nat.le_of_ble_eq_true rfl) rfl [] ⟨0, 6, 7, 50⟩ [] htab (fun q h => nomatch h) (by decide) (by decide) _ dw_x1037 (List.mem_of_getElem? dw_x1048) (fun q => ?_)
      refine e_astore_n (z := tw_cz z 1 6) (L' := [(3, .ref q), (0, .ref (b + 0)), (1, .int x1), (2, .int x2)]) X dL_moveTo_7 rfl (by decide) rfl ?_
      refine e_ldcI (z := tw_cz z 1 6) X dL_moveTo_8 (v := (-2000000097 : Int32)) _ dw_x1070 ?_
      exact dw_ckp (by exact ⟨Nat.le_refl 1, Nat.le_refl 6⟩) (e_iret (z := z) X eB dL_moveTo_10 hret ⟨eMC, eMS⟩ hQ rfl rfl)
    ·
      intro hE; exact hE.elim
def dw_P_L_use (n : Nat) (x1 : Int32) (x2 : Int32) (Y : dw_S) (Q : Int32 × dw_S → Prop) : Prop := pw_bc (tw_P_X11_use n x1 x2 (dw_s Y)) (fun r => Q (r.1, (dw_cs Y r.2))) (fun x => if x = "java/lang/IndexOutOfBoundsException" then Q ((-2000000097 : Int32), Y) else False)
theorem dw_y_L_use : tw_Mw yL_use cL_use 4 (some .int) [((0 : Nat), (6 : Nat), (7 : Nat), (50 : Nat))] 3 := ⟨List.mem_of_getElem? dw_x1209, List.mem_of_getElem? dw_x35, by decide +kernel, by decide +kernel, List.mem_of_getElem? dw_x1208⟩
set_option maxRecDepth 100000 in
set_option maxHeartbeats 4000000 in
theorem dw_m_L_use {l : Launch} {b : Nat} {D : tw_G} {C : Nat → ClassId} {S : Nat → Nat} (hD : D.2 = []) {n : Nat} {x1 : Int32} {x2 : Int32} {Y : dw_S} {Q : Int32 × dw_S → Prop} (hst : l.stackTraces = false) (h : dw_P_L_use n x1 x2 Y Q) : dw_MetW l b D C S yL_use cL_use 4 (some .int) [((0 : Nat), (6 : Nat), (7 : Nat), (50 : Nat))] ({ frames := 8, cells := 1, slots := 6, locals := 168 } : Room) [.ref (b + 0), .int x1, .int x2] Y (fun r : Int32 × dw_S => some (.int r.1)) (fun r => r.2) Q := by
  refine dw_metOfW (dw_P_L_use n x1 x2 Y Q) h _ _ Q (by decide +kernel) (Nat.le_of_ble_eq_true rfl) ?_
  intro z el eB eD eC eS eR X hA hret htab hQ
  subst el eD eC eS
  have hb : tw_zB z ≤ b := Nat.le_of_eq eB
  have hfr : (tw_zR z).frames = 8 := by rw [eR]
  have hlo : (tw_zR z).locals = 168 := by rw [eR]
  have eMC : (tw_zR z).cells = 1 := by rw [eR]
  have eMS : (tw_zR z).slots = 6 := by rw [eR]
  have X : tw_X z cL_use "TreasureWalkLaw" 4 := X
  show dw_Rf (tw_cz z 0 0) b _ Y 0 [(0, .ref (b + 0)), (1, .int x1), (2, .int x2)] []
  unfold dw_P_L_use
  refine e_aload_n (z := tw_cz z 0 0) X dL_use_0 rfl 0 rfl ?_
  refine e_iload_n (z := tw_cz z 0 0) X dL_use_1 rfl 1 rfl ?_
  refine e_iload_n (z := tw_cz z 0 0) X dL_use_2 rfl 2 rfl ?_
  refine e_bc (fun r hr => ?_) (fun x hx => ?_)
  ·
    refine dw_ckp (by exact ⟨Nat.le_of_ble_eq_true rfl, Nat.le_of_ble_eq_true rfl⟩) (e_cls1 (σ' := r.2) (As := [.int x1, .int x2]) (z := tw_cz z 0 0) X hb ⟨rfl, rfl⟩ ⟨eMC, eMS⟩ dL_use_3 (tw_m_X11_use hr) tw_y_X11_use tw_v_X11_use _ dw_x1210 rfl ⟨rfl, rfl, tw_le hfr rfl, tw_le hlo rfl⟩ (Nat.le_of_ble_eq_true rfl) rfl ?_)
    exact dw_ckp (by exact ⟨Nat.zero_le 1, Nat.zero_le 6⟩) (e_iret (z := z) X eB dL_use_6 hret ⟨eMC, eMS⟩ hQ rfl rfl)
  ·
    have hM := tw_mx_X11_use (l := tw_zl z) (B := b) (D := ((tw_zD z).1, dw_wl b (tw_zC z) Y)) (C := tw_zC z) (S := tw_zS z) hst hx
    refine e_ite (fun he => ?_) (fun he => ?_)
    ·
      subst he
      refine e_clsX (z := tw_cz z 0 0) (st := []) (As := [.int x1, .int x2]) X hb dL_use_3 hM tw_y_X11_use tw_v_X11_use _ dw_x1210 rfl ⟨rfl, rfl, tw_le hfr rfl, tw_le hlo rfl⟩ ⟨by show 0 + 1 ≤ (tw_zR z).cells; rw [eMC]; exact Nat.le_refl _, by show 0 + 6 ≤ (tw_zR z).slots; rw [eMS]; exact Nat.le_refl _⟩ (Nat.le_of_ble_eq_true rfl) rfl [] ⟨0, 6, 7, 50⟩ [] htab (fun q h => nomatch h) (by decide) (by decide) _ dw_x1037 (List.mem_of_getElem? dw_x1048) (fun q => ?_)
      refine e_astore_n (z := tw_cz z 1 6) (L' := [(3, .ref q), (0, .ref (b + 0)), (1, .int x1), (2, .int x2)]) X dL_use_7 rfl (by decide) rfl ?_
      refine e_ldcI (z := tw_cz z 1 6) X dL_use_8 (v := (-2000000097 : Int32)) _ dw_x1070 ?_
      exact dw_ckp (by exact ⟨Nat.le_refl 1, Nat.le_refl 6⟩) (e_iret (z := z) X eB dL_use_10 hret ⟨eMC, eMS⟩ hQ rfl rfl)
    ·
      intro hE; exact hE.elim
def dw_P_L_hide (n : Nat) (x1 : Int32) (Y : dw_S) (Q : Int32 × dw_S → Prop) : Prop := pw_bc (tw_P_X11_hide n x1 (dw_s Y)) (fun r => Q (r.1, (dw_cs Y r.2))) (fun x => if x = "java/lang/IllegalArgumentException" then Q ((-2000000098 : Int32), Y) else False)
theorem dw_y_L_hide : tw_Mw yL_hide cL_hide 3 (some .int) [((0 : Nat), (5 : Nat), (6 : Nat), (40 : Nat))] 2 := ⟨List.mem_of_getElem? dw_x1219, List.mem_of_getElem? dw_x35, by decide +kernel, by decide +kernel, List.mem_of_getElem? dw_x1218⟩
set_option maxRecDepth 100000 in
set_option maxHeartbeats 4000000 in
theorem dw_m_L_hide {l : Launch} {b : Nat} {D : tw_G} {C : Nat → ClassId} {S : Nat → Nat} (hD : D.2 = []) {n : Nat} {x1 : Int32} {Y : dw_S} {Q : Int32 × dw_S → Prop} (hst : l.stackTraces = false) (h : dw_P_L_hide n x1 Y Q) : dw_MetW l b D C S yL_hide cL_hide 3 (some .int) [((0 : Nat), (5 : Nat), (6 : Nat), (40 : Nat))] ({ frames := 7, cells := 1, slots := 6, locals := 169 } : Room) [.ref (b + 0), .int x1] Y (fun r : Int32 × dw_S => some (.int r.1)) (fun r => r.2) Q := by
  refine dw_metOfW (dw_P_L_hide n x1 Y Q) h _ _ Q (by decide +kernel) (Nat.le_of_ble_eq_true rfl) ?_
  intro z el eB eD eC eS eR X hA hret htab hQ
  subst el eD eC eS
  have hb : tw_zB z ≤ b := Nat.le_of_eq eB
  have hfr : (tw_zR z).frames = 7 := by rw [eR]
  have hlo : (tw_zR z).locals = 169 := by rw [eR]
  have eMC : (tw_zR z).cells = 1 := by rw [eR]
  have eMS : (tw_zR z).slots = 6 := by rw [eR]
  have X : tw_X z cL_hide "TreasureWalkLaw" 3 := X
  show dw_Rf (tw_cz z 0 0) b _ Y 0 [(0, .ref (b + 0)), (1, .int x1)] []
  unfold dw_P_L_hide
  refine e_aload_n (z := tw_cz z 0 0) X dL_hide_0 rfl 0 rfl ?_
  refine e_iload_n (z := tw_cz z 0 0) X dL_hide_1 rfl 1 rfl ?_
  refine e_bc (fun r hr => ?_) (fun x hx => ?_)
  ·
    refine dw_ckp (by exact ⟨Nat.le_of_ble_eq_true rfl, Nat.le_of_ble_eq_true rfl⟩) (e_cls1 (σ' := r.2) (As := [.int x1]) (z := tw_cz z 0 0) X hb ⟨rfl, rfl⟩ ⟨eMC, eMS⟩ dL_hide_2 (tw_m_X11_hide hr) tw_y_X11_hide tw_v_X11_hide _ dw_x1220 rfl ⟨rfl, rfl, tw_le hfr rfl, tw_le hlo rfl⟩ (Nat.le_of_ble_eq_true rfl) rfl ?_)
    exact dw_ckp (by exact ⟨Nat.zero_le 1, Nat.zero_le 6⟩) (e_iret (z := z) X eB dL_hide_5 hret ⟨eMC, eMS⟩ hQ rfl rfl)
  ·
    have hM := tw_mx_X11_hide (l := tw_zl z) (B := b) (D := ((tw_zD z).1, dw_wl b (tw_zC z) Y)) (C := tw_zC z) (S := tw_zS z) hst hx
    refine e_ite (fun he => ?_) (fun he => ?_)
    ·
      subst he
      refine e_clsX (z := tw_cz z 0 0) (st := []) (As := [.int x1]) X hb dL_hide_2 hM tw_y_X11_hide tw_v_X11_hide _ dw_x1220 rfl ⟨rfl, rfl, tw_le hfr rfl, tw_le hlo rfl⟩ ⟨by show 0 + 1 ≤ (tw_zR z).cells; rw [eMC]; exact Nat.le_refl _, by show 0 + 6 ≤ (tw_zR z).slots; rw [eMS]; exact Nat.le_refl _⟩ (Nat.le_of_ble_eq_true rfl) rfl [] ⟨0, 5, 6, 40⟩ [] htab (fun q h => nomatch h) (by decide) (by decide) _ dw_x751 (List.mem_of_getElem? dw_x758) (fun q => ?_)
      refine e_astore_n (z := tw_cz z 1 6) (L' := [(2, .ref q), (0, .ref (b + 0)), (1, .int x1)]) X dL_hide_6 rfl (by decide) rfl ?_
      refine e_ldcI (z := tw_cz z 1 6) X dL_hide_7 (v := (-2000000098 : Int32)) _ dw_x1033 ?_
      exact dw_ckp (by exact ⟨Nat.le_refl 1, Nat.le_refl 6⟩) (e_iret (z := z) X eB dL_hide_9 hret ⟨eMC, eMS⟩ hQ rfl rfl)
    ·
      intro hE; exact hE.elim
def dw_P_L_turn (n : Nat) (x1 : Int32) (x2 : Int32) (Y : dw_S) (Q : Int32 × dw_S → Prop) : Prop := pw_bc (tw_P_X11_turn n x1 x2 (dw_s Y)) (fun r => Q (r.1, (dw_cs Y r.2))) (fun x => if x = "java/lang/IndexOutOfBoundsException" then Q ((-2000000097 : Int32), Y) else if x = "java/lang/IllegalArgumentException" then Q ((-2000000098 : Int32), Y) else False)
theorem dw_y_L_turn : tw_Mw yL_turn cL_turn 4 (some .int) [((0 : Nat), (6 : Nat), (7 : Nat), (50 : Nat)), ((0 : Nat), (6 : Nat), (11 : Nat), (40 : Nat))] 3 := ⟨List.mem_of_getElem? dw_x1228, List.mem_of_getElem? dw_x35, by decide +kernel, by decide +kernel, List.mem_of_getElem? dw_x1227⟩
set_option maxRecDepth 100000 in
set_option maxHeartbeats 4000000 in
theorem dw_m_L_turn {l : Launch} {b : Nat} {D : tw_G} {C : Nat → ClassId} {S : Nat → Nat} (hD : D.2 = []) {n : Nat} {x1 : Int32} {x2 : Int32} {Y : dw_S} {Q : Int32 × dw_S → Prop} (hst : l.stackTraces = false) (h : dw_P_L_turn n x1 x2 Y Q) : dw_MetW l b D C S yL_turn cL_turn 4 (some .int) [((0 : Nat), (6 : Nat), (7 : Nat), (50 : Nat)), ((0 : Nat), (6 : Nat), (11 : Nat), (40 : Nat))] ({ frames := 7, cells := 1, slots := 6, locals := 169 } : Room) [.ref (b + 0), .int x1, .int x2] Y (fun r : Int32 × dw_S => some (.int r.1)) (fun r => r.2) Q := by
  refine dw_metOfW (dw_P_L_turn n x1 x2 Y Q) h _ _ Q (by decide +kernel) (Nat.le_of_ble_eq_true rfl) ?_
  intro z el eB eD eC eS eR X hA hret htab hQ
  subst el eD eC eS
  have hb : tw_zB z ≤ b := Nat.le_of_eq eB
  have hfr : (tw_zR z).frames = 7 := by rw [eR]
  have hlo : (tw_zR z).locals = 169 := by rw [eR]
  have eMC : (tw_zR z).cells = 1 := by rw [eR]
  have eMS : (tw_zR z).slots = 6 := by rw [eR]
  have X : tw_X z cL_turn "TreasureWalkLaw" 4 := X
  show dw_Rf (tw_cz z 0 0) b _ Y 0 [(0, .ref (b + 0)), (1, .int x1), (2, .int x2)] []
  unfold dw_P_L_turn
  refine e_aload_n (z := tw_cz z 0 0) X dL_turn_0 rfl 0 rfl ?_
  refine e_iload_n (z := tw_cz z 0 0) X dL_turn_1 rfl 1 rfl ?_
  refine e_iload_n (z := tw_cz z 0 0) X dL_turn_2 rfl 2 rfl ?_
  refine e_bc (fun r hr => ?_) (fun x hx => ?_)
  ·
    refine dw_ckp (by exact ⟨Nat.le_of_ble_eq_true rfl, Nat.le_of_ble_eq_true rfl⟩) (e_cls1 (σ' := r.2) (As := [.int x1, .int x2]) (z := tw_cz z 0 0) X hb ⟨rfl, rfl⟩ ⟨eMC, eMS⟩ dL_turn_3 (tw_m_X11_turn hr) tw_y_X11_turn tw_v_X11_turn _ dw_x1229 rfl ⟨rfl, rfl, tw_le hfr rfl, tw_le hlo rfl⟩ (Nat.le_of_ble_eq_true rfl) rfl ?_)
    exact dw_ckp (by exact ⟨Nat.zero_le 1, Nat.zero_le 6⟩) (e_iret (z := z) X eB dL_turn_6 hret ⟨eMC, eMS⟩ hQ rfl rfl)
  ·
    have hM := tw_mx_X11_turn (l := tw_zl z) (B := b) (D := ((tw_zD z).1, dw_wl b (tw_zC z) Y)) (C := tw_zC z) (S := tw_zS z) hst hx
    refine e_ite (fun he => ?_) (fun he => ?_)
    ·
      subst he
      refine e_clsX (z := tw_cz z 0 0) (st := []) (As := [.int x1, .int x2]) X hb dL_turn_3 hM tw_y_X11_turn tw_v_X11_turn _ dw_x1229 rfl ⟨rfl, rfl, tw_le hfr rfl, tw_le hlo rfl⟩ ⟨by show 0 + 1 ≤ (tw_zR z).cells; rw [eMC]; exact Nat.le_refl _, by show 0 + 6 ≤ (tw_zR z).slots; rw [eMS]; exact Nat.le_refl _⟩ (Nat.le_of_ble_eq_true rfl) rfl [] ⟨0, 6, 7, 50⟩ [⟨0, 6, 11, 40⟩] htab (fun q h => nomatch h) (by decide) (by decide) _ dw_x1037 (List.mem_of_getElem? dw_x1048) (fun q => ?_)
      refine e_astore_n (z := tw_cz z 1 6) (L' := [(3, .ref q), (0, .ref (b + 0)), (1, .int x1), (2, .int x2)]) X dL_turn_7 rfl (by decide) rfl ?_
      refine e_ldcI (z := tw_cz z 1 6) X dL_turn_8 (v := (-2000000097 : Int32)) _ dw_x1070 ?_
      exact dw_ckp (by exact ⟨Nat.le_refl 1, Nat.le_refl 6⟩) (e_iret (z := z) X eB dL_turn_10 hret ⟨eMC, eMS⟩ hQ rfl rfl)
    ·
      refine e_ite (fun he => ?_) (fun he => ?_)
      ·
        subst he
        refine e_clsX (z := tw_cz z 0 0) (st := []) (As := [.int x1, .int x2]) X hb dL_turn_3 hM tw_y_X11_turn tw_v_X11_turn _ dw_x1229 rfl ⟨rfl, rfl, tw_le hfr rfl, tw_le hlo rfl⟩ ⟨by show 0 + 1 ≤ (tw_zR z).cells; rw [eMC]; exact Nat.le_refl _, by show 0 + 6 ≤ (tw_zR z).slots; rw [eMS]; exact Nat.le_refl _⟩ (Nat.le_of_ble_eq_true rfl) rfl [⟨0, 6, 7, 50⟩] ⟨0, 6, 11, 40⟩ [] htab (fun q h => by rw [List.mem_singleton.mp h]; exact Or.inr ⟨by decide, _, X.ws _ dw_x1037 rfl, X.2.2.2.2.2.1.2.2.2.2.2.2.1.1⟩) (by decide) (by decide) _ dw_x751 (List.mem_of_getElem? dw_x758) (fun q => ?_)
        refine e_astore_n (z := tw_cz z 1 6) (L' := [(3, .ref q), (0, .ref (b + 0)), (1, .int x1), (2, .int x2)]) X dL_turn_11 rfl (by decide) rfl ?_
        refine e_ldcI (z := tw_cz z 1 6) X dL_turn_12 (v := (-2000000098 : Int32)) _ dw_x1033 ?_
        exact dw_ckp (by exact ⟨Nat.le_refl 1, Nat.le_refl 6⟩) (e_iret (z := z) X eB dL_turn_14 hret ⟨eMC, eMS⟩ hQ rfl rfl)
      ·
        intro hE; exact hE.elim
