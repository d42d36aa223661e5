theorem dw_w41 : lw_tbl[41]? = some ((Jvm.Cond.initialized "java/util/Arrays")) := by decide +kernel
theorem dw_w60 : lw_tbl[60]? = some ((Jvm.Cond.initialized "java/lang/String")) := by decide +kernel
theorem dw_w61 : lw_tbl[61]? = some ((Jvm.Cond.initialized "java/lang/StringLatin1")) := by decide +kernel
theorem dw_w64 : lw_tbl[64]? = some ((Jvm.Cond.initialized "java/lang/AbstractStringBuilder")) := by decide +kernel
theorem dw_w65 : lw_tbl[65]? = some ((Jvm.Cond.initialized "java/lang/StringBuilder")) := by decide +kernel
theorem dw_w748 : lw_tbl[748]? = some ((Jvm.Cond.methodLink "TreasureWalkLaw" (19 : Nat) ({ cls := "TreasureWalkLaw", name := "load", desc := "(LTreasureWalk;I)I" } : Jvm.MethodName))) := by decide +kernel
theorem dw_w850 : lw_tbl[850]? = some ((Jvm.Cond.instanceMethod ({ cls := "java/lang/String", name := "length", desc := "()I" } : Jvm.MethodName))) := by decide +kernel
theorem dw_w851 : lw_tbl[851]? = some ((Jvm.Cond.selects "java/lang/String" ({ cls := "java/lang/String", name := "length", desc := "()I" } : Jvm.MethodName) ({ cls := "java/lang/String", name := "length", desc := "()I" } : Jvm.MethodName))) := by decide +kernel
theorem dw_w852 : lw_tbl[852]? = some ((Jvm.Cond.code ({ cls := "java/lang/String", name := "length", desc := "()I" } : Jvm.MethodName) prog_32_method_54_code (1 : Nat) (Option.some Jvm.ClassFile.FieldType.int))) := by decide +kernel
theorem dw_w853 : lw_tbl[853]? = some ((Jvm.Cond.methodLink "java/lang/String" (335 : Nat) ({ cls := "java/lang/String", name := "coder", desc := "()B" } : Jvm.MethodName))) := by decide +kernel
theorem dw_w854 : lw_tbl[854]? = some ((Jvm.Cond.instanceMethod ({ cls := "java/lang/String", name := "coder", desc := "()B" } : Jvm.MethodName))) := by decide +kernel
theorem dw_w855 : lw_tbl[855]? = some ((Jvm.Cond.selects "java/lang/String" ({ cls := "java/lang/String", name := "coder", desc := "()B" } : Jvm.MethodName) ({ cls := "java/lang/String", name := "coder", desc := "()B" } : Jvm.MethodName))) := by decide +kernel
theorem dw_w856 : lw_tbl[856]? = some ((Jvm.Cond.code ({ cls := "java/lang/String", name := "coder", desc := "()B" } : Jvm.MethodName) prog_32_method_152_code (1 : Nat) (Option.some Jvm.ClassFile.FieldType.byte))) := by decide +kernel
theorem dw_w857 : lw_tbl[857]? = some ((Jvm.Cond.fieldLink "java/lang/String" (38 : Nat) "java/lang/String" "COMPACT_STRINGS" "Z")) := by decide +kernel
theorem dw_w860 : lw_tbl[860]? = some ((Jvm.Cond.instanceMethod ({ cls := "java/lang/String", name := "charAt", desc := "(I)C" } : Jvm.MethodName))) := by decide +kernel
theorem dw_w861 : lw_tbl[861]? = some ((Jvm.Cond.selects "java/lang/String" ({ cls := "java/lang/String", name := "charAt", desc := "(I)C" } : Jvm.MethodName) ({ cls := "java/lang/String", name := "charAt", desc := "(I)C" } : Jvm.MethodName))) := by decide +kernel
theorem dw_w862 : lw_tbl[862]? = some ((Jvm.Cond.code ({ cls := "java/lang/String", name := "charAt", desc := "(I)C" } : Jvm.MethodName) prog_32_method_56_code (2 : Nat) (Option.some Jvm.ClassFile.FieldType.char))) := by decide +kernel
theorem dw_w863 : lw_tbl[863]? = some ((Jvm.Cond.methodLink "java/lang/String" (492 : Nat) ({ cls := "java/lang/String", name := "isLatin1", desc := "()Z" } : Jvm.MethodName))) := by decide +kernel
theorem dw_w864 : lw_tbl[864]? = some ((Jvm.Cond.instanceMethod ({ cls := "java/lang/String", name := "isLatin1", desc := "()Z" } : Jvm.MethodName))) := by decide +kernel
theorem dw_w865 : lw_tbl[865]? = some ((Jvm.Cond.selects "java/lang/String" ({ cls := "java/lang/String", name := "isLatin1", desc := "()Z" } : Jvm.MethodName) ({ cls := "java/lang/String", name := "isLatin1", desc := "()Z" } : Jvm.MethodName))) := by decide +kernel
theorem dw_w866 : lw_tbl[866]? = some ((Jvm.Cond.code ({ cls := "java/lang/String", name := "isLatin1", desc := "()Z" } : Jvm.MethodName) prog_32_method_154_code (1 : Nat) (Option.some Jvm.ClassFile.FieldType.boolean))) := by decide +kernel
theorem dw_w867 : lw_tbl[867]? = some ((Jvm.Cond.methodLink "java/lang/String" (495 : Nat) ({ cls := "java/lang/StringLatin1", name := "charAt", desc := "([BI)C" } : Jvm.MethodName))) := by decide +kernel
theorem dw_w868 : lw_tbl[868]? = some ((Jvm.Cond.static ({ cls := "java/lang/StringLatin1", name := "charAt", desc := "([BI)C" } : Jvm.MethodName))) := by decide +kernel
theorem dw_w869 : lw_tbl[869]? = some ((Jvm.Cond.code ({ cls := "java/lang/StringLatin1", name := "charAt", desc := "([BI)C" } : Jvm.MethodName) prog_34_method_2_code (2 : Nat) (Option.some Jvm.ClassFile.FieldType.char))) := by decide +kernel
theorem dw_w870 : lw_tbl[870]? = some ((Jvm.Cond.methodLink "java/lang/StringLatin1" (9 : Nat) ({ cls := "java/lang/String", name := "checkIndex", desc := "(II)V" } : Jvm.MethodName))) := by decide +kernel
theorem dw_w1240 : lw_tbl[1240]? = some ((Jvm.Cond.static ({ cls := "TreasureWalkLaw", name := "writeAll", desc := "(LTreasureWalk;[ILjava/lang/String;[I)V" } : Jvm.MethodName))) := by decide +kernel
theorem dw_w1241 : lw_tbl[1241]? = some ((Jvm.Cond.code ({ cls := "TreasureWalkLaw", name := "writeAll", desc := "(LTreasureWalk;[ILjava/lang/String;[I)V" } : Jvm.MethodName) method_23_code (8 : Nat) (Option.none : Option Jvm.ClassFile.FieldType))) := by decide +kernel
theorem dw_w1242 : lw_tbl[1242]? = some ((Jvm.Cond.methodLink "TreasureWalkLaw" (96 : Nat) ({ cls := "TreasureWalkLaw", name := "write", desc := "(LTreasureWalk;[ILjava/lang/String;)V" } : Jvm.MethodName))) := by decide +kernel
theorem dw_w1243 : lw_tbl[1243]? = some ((Jvm.Cond.static ({ cls := "TreasureWalkLaw", name := "write", desc := "(LTreasureWalk;[ILjava/lang/String;)V" } : Jvm.MethodName))) := by decide +kernel
theorem dw_w1244 : lw_tbl[1244]? = some ((Jvm.Cond.code ({ cls := "TreasureWalkLaw", name := "write", desc := "(LTreasureWalk;[ILjava/lang/String;)V" } : Jvm.MethodName) method_5_code (4 : Nat) (Option.none : Option Jvm.ClassFile.FieldType))) := by decide +kernel
theorem dw_w1245 : lw_tbl[1245]? = some ((Jvm.Cond.methodLink "TreasureWalkLaw" (23 : Nat) ({ cls := "java/lang/String", name := "length", desc := "()I" } : Jvm.MethodName))) := by decide +kernel
theorem dw_w1246 : lw_tbl[1246]? = some ((Jvm.Cond.methodLink "TreasureWalkLaw" (29 : Nat) ({ cls := "java/lang/String", name := "charAt", desc := "(I)C" } : Jvm.MethodName))) := by decide +kernel
theorem dw_w1247 : lw_tbl[1247]? = some ((Jvm.Cond.methodLink "TreasureWalkLaw" (33 : Nat) ({ cls := "TreasureWalkLaw", name := "put", desc := "(LTreasureWalk;[II)V" } : Jvm.MethodName))) := by decide +kernel
theorem dw_w1248 : lw_tbl[1248]? = some ((Jvm.Cond.static ({ cls := "TreasureWalkLaw", name := "put", desc := "(LTreasureWalk;[II)V" } : Jvm.MethodName))) := by decide +kernel
theorem dw_w1249 : lw_tbl[1249]? = some ((Jvm.Cond.code ({ cls := "TreasureWalkLaw", name := "put", desc := "(LTreasureWalk;[II)V" } : Jvm.MethodName) method_2_code (3 : Nat) (Option.none : Option Jvm.ClassFile.FieldType))) := by decide +kernel
theorem dw_w1250 : lw_tbl[1250]? = some ((Jvm.Cond.methodLink "TreasureWalkLaw" (7 : Nat) ({ cls := "TreasureWalkLaw", name := "flush", desc := "(LTreasureWalk;[I)V" } : Jvm.MethodName))) := by decide +kernel
theorem dw_w1251 : lw_tbl[1251]? = some ((Jvm.Cond.static ({ cls := "TreasureWalkLaw", name := "flush", desc := "(LTreasureWalk;[I)V" } : Jvm.MethodName))) := by decide +kernel
theorem dw_w1252 : lw_tbl[1252]? = some ((Jvm.Cond.code ({ cls := "TreasureWalkLaw", name := "flush", desc := "(LTreasureWalk;[I)V" } : Jvm.MethodName) method_3_code (3 : Nat) (Option.none : Option Jvm.ClassFile.FieldType))) := by decide +kernel
theorem dw_w1253 : lw_tbl[1253]? = some ((Jvm.Cond.methodLink "TreasureWalkLaw" (13 : Nat) ({ cls := "TreasureWalk", name := "append", desc := "(IIIII)I" } : Jvm.MethodName))) := by decide +kernel
theorem dw_w1262 : lw_tbl[1262]? = some ((Jvm.Cond.methodLink "TreasureWalkLaw" (102 : Nat) ({ cls := "TreasureWalkLaw", name := "writeNumber", desc := "(LTreasureWalk;[II)V" } : Jvm.MethodName))) := by decide +kernel
theorem dw_w1263 : lw_tbl[1263]? = some ((Jvm.Cond.static ({ cls := "TreasureWalkLaw", name := "writeNumber", desc := "(LTreasureWalk;[II)V" } : Jvm.MethodName))) := by decide +kernel
theorem dw_w1264 : lw_tbl[1264]? = some ((Jvm.Cond.code ({ cls := "TreasureWalkLaw", name := "writeNumber", desc := "(LTreasureWalk;[II)V" } : Jvm.MethodName) method_6_code (4 : Nat) (Option.none : Option Jvm.ClassFile.FieldType))) := by decide +kernel
theorem dw_w1281 : lw_tbl[1281]? = some ((Jvm.Cond.fieldLink "java/lang/AbstractStringBuilder" (18 : Nat) "java/lang/String" "COMPACT_STRINGS" "Z")) := by decide +kernel
theorem dw_w1289 : lw_tbl[1289]? = some ((Jvm.Cond.fieldLink "java/lang/AbstractStringBuilder" (15 : Nat) "java/lang/AbstractStringBuilder" "value" "[B")) := by decide +kernel
theorem dw_w1290 : lw_tbl[1290]? = some ((Jvm.Cond.fieldLink "java/lang/AbstractStringBuilder" (22 : Nat) "java/lang/AbstractStringBuilder" "coder" "B")) := by decide +kernel
theorem dw_w1291 : lw_tbl[1291]? = some ((Jvm.Cond.fieldLink "java/lang/String" (1048 : Nat) "java/lang/AbstractStringBuilder" "maybeLatin1" "Z")) := by decide +kernel
theorem dw_w1292 : lw_tbl[1292]? = some ((Jvm.Cond.fieldLink "java/lang/AbstractStringBuilder" (79 : Nat) "java/lang/AbstractStringBuilder" "count" "I")) := by decide +kernel
theorem dw_w1301 : lw_tbl[1301]? = some ((Jvm.Cond.superclass "java/lang/StringBuilder" "java/lang/AbstractStringBuilder")) := by decide +kernel
theorem dw_w1339 : lw_tbl[1339]? = some ((Jvm.Cond.methodLink "java/util/Arrays" (304 : Nat) ({ cls := "java/lang/Math", name := "min", desc := "(II)I" } : Jvm.MethodName))) := by decide +kernel
theorem dw_w1340 : lw_tbl[1340]? = some ((Jvm.Cond.methodLink "java/util/Arrays" (150 : Nat) ({ cls := "java/lang/System", name := "arraycopy", desc := "(Ljava/lang/Object;ILjava/lang/Object;II)V" } : Jvm.MethodName))) := by decide +kernel
theorem dw_w1342 : lw_tbl[1342]? = some ((Jvm.Cond.instanceMethod ({ cls := "java/lang/AbstractStringBuilder", name := "isLatin1", desc := "()Z" } : Jvm.MethodName))) := by decide +kernel
theorem dw_w1344 : lw_tbl[1344]? = some ((Jvm.Cond.selects "java/lang/StringBuilder" ({ cls := "java/lang/AbstractStringBuilder", name := "isLatin1", desc := "()Z" } : Jvm.MethodName) ({ cls := "java/lang/AbstractStringBuilder", name := "isLatin1", desc := "()Z" } : Jvm.MethodName))) := by decide +kernel
theorem dw_w1345 : lw_tbl[1345]? = some ((Jvm.Cond.code ({ cls := "java/lang/AbstractStringBuilder", name := "isLatin1", desc := "()Z" } : Jvm.MethodName) prog_20_method_68_code (1 : Nat) (Option.some Jvm.ClassFile.FieldType.boolean))) := by decide +kernel
theorem dw_w1410 : lw_tbl[1410]? = some ((Jvm.Cond.instanceMethod ({ cls := "java/lang/StringBuilder", name := "toString", desc := "()Ljava/lang/String;" } : Jvm.MethodName))) := by decide +kernel
theorem dw_w1411 : lw_tbl[1411]? = some ((Jvm.Cond.selects "java/lang/StringBuilder" ({ cls := "java/lang/StringBuilder", name := "toString", desc := "()Ljava/lang/String;" } : Jvm.MethodName) ({ cls := "java/lang/StringBuilder", name := "toString", desc := "()Ljava/lang/String;" } : Jvm.MethodName))) := by decide +kernel
theorem dw_w1412 : lw_tbl[1412]? = some ((Jvm.Cond.code ({ cls := "java/lang/StringBuilder", name := "toString", desc := "()Ljava/lang/String;" } : Jvm.MethodName) prog_33_method_42_code (1 : Nat) (Option.some (Jvm.ClassFile.FieldType.object "java/lang/String")))) := by decide +kernel
theorem dw_w1413 : lw_tbl[1413]? = some ((Jvm.Cond.classLink "java/lang/StringBuilder" (18 : Nat) "java/lang/String")) := by decide +kernel
theorem dw_w1414 : lw_tbl[1414]? = some ((Jvm.Cond.instantiable "java/lang/String" (4 : Nat))) := by decide +kernel
theorem dw_w1415 : lw_tbl[1415]? = some ((Jvm.Cond.methodLink "java/lang/StringBuilder" (137 : Nat) ({ cls := "java/lang/String", name := "<init>", desc := "(Ljava/lang/StringBuilder;)V" } : Jvm.MethodName))) := by decide +kernel
theorem dw_w1416 : lw_tbl[1416]? = some ((Jvm.Cond.instanceMethod ({ cls := "java/lang/String", name := "<init>", desc := "(Ljava/lang/StringBuilder;)V" } : Jvm.MethodName))) := by decide +kernel
theorem dw_w1417 : lw_tbl[1417]? = some ((Jvm.Cond.code ({ cls := "java/lang/String", name := "<init>", desc := "(Ljava/lang/StringBuilder;)V" } : Jvm.MethodName) prog_32_method_53_code (2 : Nat) (Option.none : Option Jvm.ClassFile.FieldType))) := by decide +kernel
theorem dw_w1418 : lw_tbl[1418]? = some ((Jvm.Cond.methodLink "java/lang/String" (489 : Nat) ({ cls := "java/lang/String", name := "<init>", desc := "(Ljava/lang/AbstractStringBuilder;Ljava/lang/Void;)V" } : Jvm.MethodName))) := by decide +kernel
theorem dw_w1419 : lw_tbl[1419]? = some ((Jvm.Cond.instanceMethod ({ cls := "java/lang/String", name := "<init>", desc := "(Ljava/lang/AbstractStringBuilder;Ljava/lang/Void;)V" } : Jvm.MethodName))) := by decide +kernel
theorem dw_w1420 : lw_tbl[1420]? = some ((Jvm.Cond.code ({ cls := "java/lang/String", name := "<init>", desc := "(Ljava/lang/AbstractStringBuilder;Ljava/lang/Void;)V" } : Jvm.MethodName) prog_32_method_150_code (5 : Nat) (Option.none : Option Jvm.ClassFile.FieldType))) := by decide +kernel
theorem dw_w1421 : lw_tbl[1421]? = some ((Jvm.Cond.methodLink "java/lang/String" (1 : Nat) ({ cls := "java/lang/Object", name := "<init>", desc := "()V" } : Jvm.MethodName))) := by decide +kernel
theorem dw_w1422 : lw_tbl[1422]? = some ((Jvm.Cond.methodLink "java/lang/String" (552 : Nat) ({ cls := "java/lang/AbstractStringBuilder", name := "getValue", desc := "()[B" } : Jvm.MethodName))) := by decide +kernel
theorem dw_w1423 : lw_tbl[1423]? = some ((Jvm.Cond.instanceMethod ({ cls := "java/lang/AbstractStringBuilder", name := "getValue", desc := "()[B" } : Jvm.MethodName))) := by decide +kernel
theorem dw_w1425 : lw_tbl[1425]? = some ((Jvm.Cond.selects "java/lang/StringBuilder" ({ cls := "java/lang/AbstractStringBuilder", name := "getValue", desc := "()[B" } : Jvm.MethodName) ({ cls := "java/lang/AbstractStringBuilder", name := "getValue", desc := "()[B" } : Jvm.MethodName))) := by decide +kernel
theorem dw_w1426 : lw_tbl[1426]? = some ((Jvm.Cond.code ({ cls := "java/lang/AbstractStringBuilder", name := "getValue", desc := "()[B" } : Jvm.MethodName) prog_20_method_64_code (1 : Nat) (Option.some (Jvm.ClassFile.FieldType.array Jvm.ClassFile.FieldType.byte)))) := by decide +kernel
theorem dw_w1427 : lw_tbl[1427]? = some ((Jvm.Cond.methodLink "java/lang/String" (549 : Nat) ({ cls := "java/lang/AbstractStringBuilder", name := "length", desc := "()I" } : Jvm.MethodName))) := by decide +kernel
theorem dw_w1428 : lw_tbl[1428]? = some ((Jvm.Cond.instanceMethod ({ cls := "java/lang/AbstractStringBuilder", name := "length", desc := "()I" } : Jvm.MethodName))) := by decide +kernel
theorem dw_w1429 : lw_tbl[1429]? = some ((Jvm.Cond.sameMethod "java/lang/AbstractStringBuilder" "java/lang/AbstractStringBuilder" "length" "()I")) := by decide +kernel
theorem dw_w1430 : lw_tbl[1430]? = some ((Jvm.Cond.selects "java/lang/StringBuilder" ({ cls := "java/lang/AbstractStringBuilder", name := "length", desc := "()I" } : Jvm.MethodName) ({ cls := "java/lang/StringBuilder", name := "length", desc := "()I" } : Jvm.MethodName))) := by decide +kernel
theorem dw_w1431 : lw_tbl[1431]? = some ((Jvm.Cond.instanceMethod ({ cls := "java/lang/StringBuilder", name := "length", desc := "()I" } : Jvm.MethodName))) := by decide +kernel
theorem dw_w1432 : lw_tbl[1432]? = some ((Jvm.Cond.code ({ cls := "java/lang/StringBuilder", name := "length", desc := "()I" } : Jvm.MethodName) prog_33_method_93_code (1 : Nat) (Option.some Jvm.ClassFile.FieldType.int))) := by decide +kernel
theorem dw_w1433 : lw_tbl[1433]? = some ((Jvm.Cond.methodLink "java/lang/StringBuilder" (343 : Nat) ({ cls := "java/lang/AbstractStringBuilder", name := "length", desc := "()I" } : Jvm.MethodName))) := by decide +kernel
theorem dw_w1434 : lw_tbl[1434]? = some ((Jvm.Cond.code ({ cls := "java/lang/AbstractStringBuilder", name := "length", desc := "()I" } : Jvm.MethodName) prog_20_method_6_code (1 : Nat) (Option.some Jvm.ClassFile.FieldType.int))) := by decide +kernel
theorem dw_w1435 : lw_tbl[1435]? = some ((Jvm.Cond.methodLink "java/lang/String" (1047 : Nat) ({ cls := "java/lang/AbstractStringBuilder", name := "isLatin1", desc := "()Z" } : Jvm.MethodName))) := by decide +kernel
theorem dw_w1436 : lw_tbl[1436]? = some ((Jvm.Cond.methodLink "java/lang/String" (54 : Nat) ({ cls := "java/util/Arrays", name := "copyOfRange", desc := "([BII)[B" } : Jvm.MethodName))) := by decide +kernel
theorem dw_w1437 : lw_tbl[1437]? = some ((Jvm.Cond.static ({ cls := "java/util/Arrays", name := "copyOfRange", desc := "([BII)[B" } : Jvm.MethodName))) := by decide +kernel
theorem dw_w1438 : lw_tbl[1438]? = some ((Jvm.Cond.code ({ cls := "java/util/Arrays", name := "copyOfRange", desc := "([BII)[B" } : Jvm.MethodName) prog_40_method_132_code (3 : Nat) (Option.some (Jvm.ClassFile.FieldType.array Jvm.ClassFile.FieldType.byte)))) := by decide +kernel
theorem dw_w1439 : lw_tbl[1439]? = some ((Jvm.Cond.methodLink "java/util/Arrays" (339 : Nat) ({ cls := "java/util/Arrays", name := "copyOfRangeByte", desc := "([BII)[B" } : Jvm.MethodName))) := by decide +kernel
theorem dw_w1440 : lw_tbl[1440]? = some ((Jvm.Cond.static ({ cls := "java/util/Arrays", name := "copyOfRangeByte", desc := "([BII)[B" } : Jvm.MethodName))) := by decide +kernel
theorem dw_w1441 : lw_tbl[1441]? = some ((Jvm.Cond.code ({ cls := "java/util/Arrays", name := "copyOfRangeByte", desc := "([BII)[B" } : Jvm.MethodName) prog_40_method_133_code (5 : Nat) (Option.some (Jvm.ClassFile.FieldType.array Jvm.ClassFile.FieldType.byte)))) := by decide +kernel
theorem dw_w1442 : lw_tbl[1442]? = some ((Jvm.Cond.methodLink "java/util/Arrays" (343 : Nat) ({ cls := "java/util/Arrays", name := "checkLength", desc := "(II)V" } : Jvm.MethodName))) := by decide +kernel
theorem dw_w1443 : lw_tbl[1443]? = some ((Jvm.Cond.static ({ cls := "java/util/Arrays", name := "checkLength", desc := "(II)V" } : Jvm.MethodName))) := by decide +kernel
theorem dw_w1444 : lw_tbl[1444]? = some ((Jvm.Cond.code ({ cls := "java/util/Arrays", name := "checkLength", desc := "(II)V" } : Jvm.MethodName) prog_40_method_131_code (2 : Nat) (Option.none : Option Jvm.ClassFile.FieldType))) := by decide +kernel
theorem dw_w1487 : lw_tbl[1487]? = some ((Jvm.Cond.fieldLink "java/lang/String" (9 : Nat) "java/lang/String" "value" "[B")) := by decide +kernel
theorem dw_w1488 : lw_tbl[1488]? = some ((Jvm.Cond.fieldLink "java/lang/String" (15 : Nat) "java/lang/String" "coder" "B")) := by decide +kernel
theorem dw_w1540 : lw_tbl[1540]? = some ((Jvm.Cond.static ({ cls := "TreasureWalkLaw", name := "loadText", desc := "(LTreasureWalk;[I)I" } : Jvm.MethodName))) := by decide +kernel
theorem dw_w1541 : lw_tbl[1541]? = some ((Jvm.Cond.code ({ cls := "TreasureWalkLaw", name := "loadText", desc := "(LTreasureWalk;[I)I" } : Jvm.MethodName) method_4_code (3 : Nat) (Option.some Jvm.ClassFile.FieldType.int))) := by decide +kernel
def dw_P_L_flush (n : Nat) (r1 : Nat) (Y : dw_S) (Q : dw_S → Prop) : Prop :=
pw_ck (dw_is Y r1 20 ∧ tw_ok (1 : Int32) (dw_l Y r1) = true) (
pw_ck (dw_is Y r1 20 ∧ tw_ok (2 : Int32) (dw_l Y r1) = true) (
pw_ck (dw_is Y r1 20 ∧ tw_ok (3 : Int32) (dw_l Y r1) = true) (
pw_ck (dw_is Y r1 20 ∧ tw_ok (4 : Int32) (dw_l Y r1) = true) (
pw_ck (dw_is Y r1 20 ∧ tw_ok (5 : Int32) (dw_l Y r1) = true) (
pw_bd (tw_P_X11_append n (dw_i Y r1 (Int32.toNatClampNeg (1 : Int32))) (dw_i Y r1 (Int32.toNatClampNeg (2 : Int32))) (dw_i Y r1 (Int32.toNatClampNeg (3 : Int32))) (dw_i Y r1 (Int32.toNatClampNeg (4 : Int32))) (dw_i Y r1 (Int32.toNatClampNeg (5 : Int32))) (dw_s Y)) (fun r21 =>
pw_lt (1 : Int32) (fun (v22 : Int32) =>
pw_lp (fun (k24 : (Int32 × dw_S) → Prop) (a23 : Int32 × dw_S) =>
if (6 : Int32) ≤ a23.1 then (Q a23.2)
else (pw_ck (dw_is a23.2 r1 20 ∧ tw_ok a23.1 (dw_l a23.2 r1) = true) (pw_lt (dw_pi a23.2 r1 (Int32.toNatClampNeg a23.1) (0 : Int32)) (fun (Y25 : dw_S) =>
pw_lt (a23.1 + (1 : Int32)) (fun (v26 : Int32) =>
k24 (v26, Y25)))))) n (v22, (dw_cs Y r21.2)))))))))
theorem dw_y_L_flush : tw_My yL_flush cL_flush 3 none 2 := ⟨List.mem_of_getElem? dw_w1252, List.mem_of_getElem? dw_w35, by decide +kernel, by decide +kernel, by decide +kernel⟩
theorem dw_v_L_flush : tw_Ms yL_flush := List.mem_of_getElem? dw_w1251
set_option maxRecDepth 100000 in
set_option maxHeartbeats 4000000 in
theorem dw_m_L_flush {l : Launch} {b : Nat} {D : tw_G} {C : Nat → ClassId} {S : Nat → Nat} (hD : D.2 = []) {n : Nat} {r1 : Nat} {Y : dw_S} {Q : dw_S → Prop}  (h : dw_P_L_flush n r1 Y Q) : dw_Met l b D C S yL_flush cL_flush 3 none ({ frames := 3, cells := 0, slots := 0, locals := 69 } : Room) [.ref (b + 0), .ref (b + r1)] Y (fun _ => none) (fun r => r) Q := by
  refine dw_metOf (dw_P_L_flush n r1 Y Q) h _ _ Q (by decide +kernel) (Nat.le_of_ble_eq_true rfl) ?_
  intro z el eB eD eC eS eR X hA hnm hret hQ
  subst el eD eC eS
  have hb : tw_zB z ≤ b := Nat.le_of_eq eB
  have hA : dw_AK (tw_zB z) (tw_zS z) (tw_zs z) := by rw [eB]; exact hA
  have hfr : (tw_zR z).frames = 3 := by rw [eR]
  have hlo : (tw_zR z).locals = 69 := by rw [eR]
  have eMC : (tw_zR z).cells = 0 := by rw [eR]
  have eMS : (tw_zR z).slots = 0 := by rw [eR]
  have X : tw_X z cL_flush "TreasureWalkLaw" 3 := X
  show dw_Rf (tw_cz z 0 0) b _ Y 0 [(0, .ref (b + 0)), (1, .ref (b + r1))] []
  unfold dw_P_L_flush
  refine e_aload_n (z := tw_cz z 0 0) X dL_flush_0 rfl 0 rfl ?_
  refine e_aload_n (z := tw_cz z 0 0) X dL_flush_1 rfl 1 rfl ?_
  refine e_iconst (z := tw_cz z 0 0) X dL_flush_2 (v := (1 : Int32)) (by decide) ?_
  refine e_iald (k := r1) (z := tw_cz z 0 0) X dL_flush_3 ?_
  refine e_aload_n (z := tw_cz z 0 0) X dL_flush_4 rfl 1 rfl ?_
  refine e_iconst (z := tw_cz z 0 0) X dL_flush_5 (v := (2 : Int32)) (by decide) ?_
  refine e_iald (k := r1) (z := tw_cz z 0 0) X dL_flush_6 ?_
  refine e_aload_n (z := tw_cz z 0 0) X dL_flush_7 rfl 1 rfl ?_
  refine e_iconst (z := tw_cz z 0 0) X dL_flush_8 (v := (3 : Int32)) (by decide) ?_
  refine e_iald (k := r1) (z := tw_cz z 0 0) X dL_flush_9 ?_
  refine e_aload_n (z := tw_cz z 0 0) X dL_flush_10 rfl 1 rfl ?_
  refine e_iconst (z := tw_cz z 0 0) X dL_flush_11 (v := (4 : Int32)) (by decide) ?_
  refine e_iald (k := r1) (z := tw_cz z 0 0) X dL_flush_12 ?_
  refine e_aload_n (z := tw_cz z 0 0) X dL_flush_13 rfl 1 rfl ?_
  refine e_iconst (z := tw_cz z 0 0) X dL_flush_14 (v := (5 : Int32)) (by decide) ?_
  refine e_iald (k := r1) (z := tw_cz z 0 0) X dL_flush_15 ?_
  refine dw_ckp (by exact ⟨Nat.le_of_ble_eq_true rfl, Nat.le_of_ble_eq_true rfl⟩) (e_cls (e := tw_P_X11_append n (dw_i Y r1 (Int32.toNatClampNeg (1 : Int32))) (dw_i Y r1 (Int32.toNatClampNeg (2 : Int32))) (dw_i Y r1 (Int32.toNatClampNeg (3 : Int32))) (dw_i Y r1 (Int32.toNatClampNeg (4 : Int32))) (dw_i Y r1 (Int32.toNatClampNeg (5 : Int32))) (dw_s Y)) (rv := fun r => some (.int r.1)) (σ' := fun r => r.2) (As := [.int (dw_i Y r1 (Int32.toNatClampNeg (1 : Int32))), .int (dw_i Y r1 (Int32.toNatClampNeg (2 : Int32))), .int (dw_i Y r1 (Int32.toNatClampNeg (3 : Int32))), .int (dw_i Y r1 (Int32.toNatClampNeg (4 : Int32))), .int (dw_i Y r1 (Int32.toNatClampNeg (5 : Int32)))]) (z := tw_cz z 0 0) X hb ⟨rfl, rfl⟩ ⟨eMC, eMS⟩ dL_flush_16 (fun r h => tw_m_X11_append h) tw_y_X11_append tw_v_X11_append _ dw_w1253 rfl ⟨rfl, rfl, tw_le hfr rfl, tw_le hlo rfl⟩ (Nat.le_of_ble_eq_true rfl) rfl (fun r21 => ?_))
  show dw_Rf (tw_cz z 0 0) b _ (dw_cs Y r21.2) _ [(0, .ref (b + 0)), (1, .ref (b + r1))] [.int r21.1]
  refine e_pop (z := tw_cz z 0 0) X dL_flush_19 rfl ?_
  refine e_iconst (z := tw_cz z 0 0) X dL_flush_20 (v := (1 : Int32)) (by decide) ?_
  refine e_istore_n (z := tw_cz z 0 0) X dL_flush_21 rfl (by decide) (LL := fun v22 => [(2, .int v22), (0, .ref (b + 0)), (1, .ref (b + r1))]) (fun _ => rfl) (fun v22 => ?_)
  refine dw_Rf.sub [0, 2] rfl ?_
  refine e_lp (α := Int32 × dw_S) (zJ := fun a23 => tw_cz z 0 0) (YJ := fun a23 => a23.2) (pcJ := 22) (LJ := fun a23 => [(2, .int a23.1), (1, .ref (b + r1))]) (stJ := fun a23 => []) (fun k24 hk24 a23 => ?_) n (v22, (dw_cs Y r21.2))
  refine e_iload_n (z := tw_cz z 0 0) X dL_flush_22 rfl 0 rfl ?_
  refine e_bipush (z := tw_cz z 0 0) X dL_flush_23 (v := (6 : Int32)) (by decide) ?_
  refine e_icmp_ge (z := tw_cz z 0 0) X dL_flush_25 (tgt := 38) (by decide) ?_ ?_
  ·
    exact dw_ckp (by exact ⟨Nat.le_of_ble_eq_true rfl, Nat.le_of_ble_eq_true rfl⟩) (e_vret (z := z) X eB dL_flush_38 hret ⟨eMC, eMS⟩ hQ rfl rfl)
  ·
    refine e_aload_n (z := tw_cz z 0 0) X dL_flush_28 rfl 1 rfl ?_
    refine e_iload_n (z := tw_cz z 0 0) X dL_flush_29 rfl 0 rfl ?_
    refine e_iconst (z := tw_cz z 0 0) X dL_flush_30 (v := (0 : Int32)) (by decide) ?_
    refine e_iast (k := r1) (z := tw_cz z 0 0) X hb dL_flush_31 (fun Y25 => ?_)
    refine e_iinc (z := tw_cz z 0 0) X dL_flush_32 0 rfl (v := (1 : Int32)) (by decide) (by decide) (LL := fun v26 => [(2, .int v26), (1, .ref (b + r1))]) (fun _ => rfl) (fun v26 => ?_)
    refine e_goto (z := tw_cz z 0 0) X dL_flush_35 (tgt := 22) (by decide) ?_
    exact hk24 (v26, Y25)
def dw_P_L_put (n : Nat) (r1 : Nat) (x2 : Int32) (Y : dw_S) (Q : dw_S → Prop) : Prop :=
pw_ck (dw_is Y r1 20 ∧ tw_ok (0 : Int32) (dw_l Y r1) = true) (
pw_ck (dw_is Y r1 20 ∧ tw_ok ((1 : Int32) + (((dw_i Y r1 (Int32.toNatClampNeg (0 : Int32))) - (dw_i Y r1 (Int32.toNatClampNeg (0 : Int32))) / (20 : Int32) * (20 : Int32)) / (4 : Int32))) (dw_l Y r1) = true) (
pw_ck (dw_is Y r1 20 ∧ tw_ok (0 : Int32) (dw_l Y r1) = true) (
pw_ck (dw_is Y r1 20 ∧ tw_ok ((1 : Int32) + (((dw_i Y r1 (Int32.toNatClampNeg (0 : Int32))) - (dw_i Y r1 (Int32.toNatClampNeg (0 : Int32))) / (20 : Int32) * (20 : Int32)) / (4 : Int32))) (dw_l Y r1) = true) (pw_lt (dw_pi Y r1 (Int32.toNatClampNeg ((1 : Int32) + (((dw_i Y r1 (Int32.toNatClampNeg (0 : Int32))) - (dw_i Y r1 (Int32.toNatClampNeg (0 : Int32))) / (20 : Int32) * (20 : Int32)) / (4 : Int32)))) ((dw_i Y r1 (Int32.toNatClampNeg ((1 : Int32) + (((dw_i Y r1 (Int32.toNatClampNeg (0 : Int32))) - (dw_i Y r1 (Int32.toNatClampNeg (0 : Int32))) / (20 : Int32) * (20 : Int32)) / (4 : Int32))))) ||| (x2 <<< (((24 : Int32) - ((8 : Int32) * ((dw_i Y r1 (Int32.toNatClampNeg (0 : Int32))) - (dw_i Y r1 (Int32.toNatClampNeg (0 : Int32))) / (4 : Int32) * (4 : Int32)))) &&& 31)))) (fun (Y21 : dw_S) =>
pw_ck (dw_is Y21 r1 20 ∧ tw_ok (0 : Int32) (dw_l Y21 r1) = true) (
pw_ck (dw_is Y21 r1 20 ∧ tw_ok (0 : Int32) (dw_l Y21 r1) = true) (pw_lt (dw_pi Y21 r1 (Int32.toNatClampNeg (0 : Int32)) ((dw_i Y21 r1 (Int32.toNatClampNeg (0 : Int32))) + (1 : Int32))) (fun (Y22 : dw_S) =>
pw_ck (dw_is Y22 r1 20 ∧ tw_ok (0 : Int32) (dw_l Y22 r1) = true) (
tw_jn (fun (a23 : dw_S) =>
Q a23) (fun (j24 : (dw_S) → Prop) =>
if ¬ ((dw_i Y22 r1 (Int32.toNatClampNeg (0 : Int32))) - (dw_i Y22 r1 (Int32.toNatClampNeg (0 : Int32))) / (20 : Int32) * (20 : Int32)) = 0 then (j24 Y22)
else (dw_P_L_flush n r1 Y22 (fun (r25 : dw_S) =>
j24 r25))))))))))))
theorem dw_y_L_put : tw_My yL_put cL_put 3 none 3 := ⟨List.mem_of_getElem? dw_w1249, List.mem_of_getElem? dw_w35, by decide +kernel, by decide +kernel, by decide +kernel⟩
theorem dw_v_L_put : tw_Ms yL_put := List.mem_of_getElem? dw_w1248
set_option maxRecDepth 100000 in
set_option maxHeartbeats 4000000 in
theorem dw_m_L_put {l : Launch} {b : Nat} {D : tw_G} {C : Nat → ClassId} {S : Nat → Nat} (hD : D.2 = []) {n : Nat} {r1 : Nat} {x2 : Int32} {Y : dw_S} {Q : dw_S → Prop}  (h : dw_P_L_put n r1 x2 Y Q) : dw_Met l b D C S yL_put cL_put 3 none ({ frames := 4, cells := 0, slots := 0, locals := 91 } : Room) [.ref (b + 0), .ref (b + r1), .int x2] Y (fun _ => none) (fun r => r) Q := by
  refine dw_metOf (dw_P_L_put n r1 x2 Y Q) h _ _ Q (by decide +kernel) (Nat.le_of_ble_eq_true rfl) ?_
  intro z el eB eD eC eS eR X hA hnm hret hQ
  subst el eD eC eS
  have hb : tw_zB z ≤ b := Nat.le_of_eq eB
  have hA : dw_AK (tw_zB z) (tw_zS z) (tw_zs z) := by rw [eB]; exact hA
  have hfr : (tw_zR z).frames = 4 := by rw [eR]
  have hlo : (tw_zR z).locals = 91 := by rw [eR]
  have eMC : (tw_zR z).cells = 0 := by rw [eR]
  have eMS : (tw_zR z).slots = 0 := by rw [eR]
  have X : tw_X z cL_put "TreasureWalkLaw" 3 := X
  show dw_Rf (tw_cz z 0 0) b _ Y 0 [(0, .ref (b + 0)), (1, .ref (b + r1)), (2, .int x2)] []
  unfold dw_P_L_put
  refine e_aload_n (z := tw_cz z 0 0) X dL_put_0 rfl 1 rfl ?_
  refine e_iconst (z := tw_cz z 0 0) X dL_put_1 (v := (1 : Int32)) (by decide) ?_
  refine e_aload_n (z := tw_cz z 0 0) X dL_put_2 rfl 1 rfl ?_
  refine e_iconst (z := tw_cz z 0 0) X dL_put_3 (v := (0 : Int32)) (by decide) ?_
  refine e_iald (k := r1) (z := tw_cz z 0 0) X dL_put_4 ?_
  refine e_bipush (z := tw_cz z 0 0) X dL_put_5 (v := (20 : Int32)) (by decide) ?_
  refine dw_ckp (by decide) (e_irem (z := tw_cz z 0 0) X dL_put_7 ?_)
  refine e_iconst (z := tw_cz z 0 0) X dL_put_8 (v := (4 : Int32)) (by decide) ?_
  refine dw_ckp (by decide) (e_idiv (z := tw_cz z 0 0) X dL_put_9 ?_)
  refine e_iadd (z := tw_cz z 0 0) X dL_put_10 ?_
  refine e_dup2 (z := tw_cz z 0 0) X dL_put_11 rfl rfl ?_
  refine e_iald (k := r1) (z := tw_cz z 0 0) X dL_put_12 ?_
  refine e_iload_n (z := tw_cz z 0 0) X dL_put_13 rfl 2 rfl ?_
  refine e_bipush (z := tw_cz z 0 0) X dL_put_14 (v := (24 : Int32)) (by decide) ?_
  refine e_bipush (z := tw_cz z 0 0) X dL_put_16 (v := (8 : Int32)) (by decide) ?_
  refine e_aload_n (z := tw_cz z 0 0) X dL_put_18 rfl 1 rfl ?_
  refine e_iconst (z := tw_cz z 0 0) X dL_put_19 (v := (0 : Int32)) (by decide) ?_
  refine e_iald (k := r1) (z := tw_cz z 0 0) X dL_put_20 ?_
  refine e_iconst (z := tw_cz z 0 0) X dL_put_21 (v := (4 : Int32)) (by decide) ?_
  refine dw_ckp (by decide) (e_irem (z := tw_cz z 0 0) X dL_put_22 ?_)
  refine e_imul (z := tw_cz z 0 0) X dL_put_23 ?_
  refine e_isub (z := tw_cz z 0 0) X dL_put_24 ?_
  refine e_ishl (z := tw_cz z 0 0) X dL_put_25 ?_
  refine e_ior (z := tw_cz z 0 0) X dL_put_26 ?_
  refine e_iast (k := r1) (z := tw_cz z 0 0) X hb dL_put_27 (fun Y21 => ?_)
  refine e_aload_n (z := tw_cz z 0 0) X dL_put_28 rfl 1 rfl ?_
  refine e_iconst (z := tw_cz z 0 0) X dL_put_29 (v := (0 : Int32)) (by decide) ?_
  refine e_dup2 (z := tw_cz z 0 0) X dL_put_30 rfl rfl ?_
  refine e_iald (k := r1) (z := tw_cz z 0 0) X dL_put_31 ?_
  refine e_iconst (z := tw_cz z 0 0) X dL_put_32 (v := (1 : Int32)) (by decide) ?_
  refine e_iadd (z := tw_cz z 0 0) X dL_put_33 ?_
  refine e_iast (k := r1) (z := tw_cz z 0 0) X hb dL_put_34 (fun Y22 => ?_)
  refine e_aload_n (z := tw_cz z 0 0) X dL_put_35 rfl 1 rfl ?_
  refine e_iconst (z := tw_cz z 0 0) X dL_put_36 (v := (0 : Int32)) (by decide) ?_
  refine e_iald (k := r1) (z := tw_cz z 0 0) X dL_put_37 ?_
  refine e_bipush (z := tw_cz z 0 0) X dL_put_38 (v := (20 : Int32)) (by decide) ?_
  refine dw_ckp (by decide) (e_irem (z := tw_cz z 0 0) X dL_put_40 ?_)
  refine e_jn (α := dw_S) (zJ := fun a23 => tw_cz z 0 0) (YJ := fun a23 => a23) (pcJ := 49) (LJ := fun a23 => []) (stJ := fun a23 => []) (fun a23 => ?_) (fun j24 hj24 => ?_)
  ·
    exact dw_ckp (by exact ⟨Nat.le_of_ble_eq_true rfl, Nat.le_of_ble_eq_true rfl⟩) (e_vret (z := z) X eB dL_put_49 hret ⟨eMC, eMS⟩ hQ rfl rfl)
  refine e_if_ne (z := tw_cz z 0 0) X dL_put_41 (tgt := 49) (by decide) ?_ ?_
  ·
    exact dw_Rf.sub [] rfl (hj24 Y22)
  ·
    refine e_aload_n (z := tw_cz z 0 0) X dL_put_44 rfl 0 rfl ?_
    refine e_aload_n (z := tw_cz z 0 0) X dL_put_45 rfl 1 rfl ?_
    refine dw_ckp (by exact ⟨Nat.le_of_ble_eq_true rfl, Nat.le_of_ble_eq_true rfl⟩) (e_callS (c := 0) (s := 0) (As := [.ref (b + 0), .ref (b + r1)]) (z := tw_cz z 0 0) X hA hb hD ⟨rfl, rfl⟩ ⟨eMC, eMS⟩ dL_put_46 (fun Q h => dw_m_L_flush hD h) dw_y_L_flush dw_v_L_flush _ dw_w1250 rfl ⟨tw_le hfr rfl, tw_le hlo rfl⟩ (Nat.le_of_ble_eq_true rfl) rfl (fun r25 => ?_))
    show dw_Rf (tw_cz z 0 0) b _ r25 _ [(0, .ref (b + 0)), (1, .ref (b + r1)), (2, .int x2)] []
    exact dw_Rf.sub [] rfl (hj24 r25)
def dw_P_L_write (n : Nat) (r1 : Nat) (w2 : Nat) (Y : dw_S) (Q : dw_S → Prop) : Prop :=
pw_lt (0 : Int32) (fun (v21 : Int32) =>
pw_lp (fun (k23 : (Int32 × dw_S) → Prop) (a22 : Int32 × dw_S) =>
if (Int32.ofNat (tw_len.getD w2 0)) ≤ a22.1 then (Q (dw_cs a22.2 (dw_s a22.2)))
else (pw_bd (if tw_ok a22.1 (tw_len.getD w2 0) = true then some () else none : Option Unit) (fun _ =>
dw_P_L_put n r1 ((tw_byt.getD w2 []).getD (Int32.toNatClampNeg a22.1) 0) (dw_cs (dw_cs a22.2 (dw_s a22.2)) (dw_s (dw_cs a22.2 (dw_s a22.2)))) (fun (r24 : dw_S) =>
pw_lt (a22.1 + (1 : Int32)) (fun (v25 : Int32) =>
k23 (v25, r24)))))) n (v21, Y))
theorem dw_y_L_write : tw_My yL_write cL_write 4 none 3 := ⟨List.mem_of_getElem? dw_w1244, List.mem_of_getElem? dw_w35, by decide +kernel, by decide +kernel, by decide +kernel⟩
theorem dw_v_L_write : tw_Ms yL_write := List.mem_of_getElem? dw_w1243
set_option maxRecDepth 100000 in
set_option maxHeartbeats 4000000 in
theorem dw_m_L_write {l : Launch} {b : Nat} {D : tw_G} {C : Nat → ClassId} {S : Nat → Nat} (hD : D.2 = []) {n : Nat} {r1 : Nat} {w2 : Nat} {Y : dw_S} {Q : dw_S → Prop} (hw2 : w2 < 33) (h : dw_P_L_write n r1 w2 Y Q) : dw_Met l b D C S yL_write cL_write 4 none ({ frames := 6, cells := 0, slots := 0, locals := 120 } : Room) [.ref (b + 0), .ref (b + r1), .ref (S w2)] Y (fun _ => none) (fun r => r) Q := by
  refine dw_metOf (dw_P_L_write n r1 w2 Y Q) h _ _ Q (by decide +kernel) (Nat.le_of_ble_eq_true rfl) ?_
  intro z el eB eD eC eS eR X hA hnm hret hQ
  subst el eD eC eS
  have hb : tw_zB z ≤ b := Nat.le_of_eq eB
  have hA : dw_AK (tw_zB z) (tw_zS z) (tw_zs z) := by rw [eB]; exact hA
  have hfr : (tw_zR z).frames = 6 := by rw [eR]
  have hlo : (tw_zR z).locals = 120 := by rw [eR]
  have eMC : (tw_zR z).cells = 0 := by rw [eR]
  have eMS : (tw_zR z).slots = 0 := by rw [eR]
  have X : tw_X z cL_write "TreasureWalkLaw" 4 := X
  show dw_Rf (tw_cz z 0 0) b _ Y 0 [(0, .ref (b + 0)), (1, .ref (b + r1)), (2, .ref (tw_zS z w2))] []
  unfold dw_P_L_write
  refine e_iconst (z := tw_cz z 0 0) X dL_write_0 (v := (0 : Int32)) (by decide) ?_
  refine e_istore_n (z := tw_cz z 0 0) X dL_write_1 rfl (by decide) (LL := fun v21 => [(3, .int v21), (0, .ref (b + 0)), (1, .ref (b + r1)), (2, .ref (tw_zS z w2))]) (fun _ => rfl) (fun v21 => ?_)
  refine e_lp (α := Int32 × dw_S) (zJ := fun a22 => tw_cz z 0 0) (YJ := fun a22 => a22.2) (pcJ := 2) (LJ := fun a22 => [(3, .int a22.1), (0, .ref (b + 0)), (1, .ref (b + r1)), (2, .ref (tw_zS z w2))]) (stJ := fun a22 => []) (fun k23 hk23 a22 => ?_) n (v21, Y)
  refine e_iload_n (z := tw_cz z 0 0) X dL_write_2 rfl 0 rfl ?_
  refine e_aload_n (z := tw_cz z 0 0) X dL_write_3 rfl 3 rfl ?_
  refine dw_ckp (by exact ⟨Nat.le_of_ble_eq_true rfl, Nat.le_of_ble_eq_true rfl⟩) (dw_bdu (e_clT (w := w2) (e := (some () : Option Unit)) (rv := fun _ => (some (.int (Int32.ofNat (tw_len.getD w2 0))))) (σ' := fun _ => dw_s a22.2) (As := []) (z := tw_cz z 0 0) X hb ⟨rfl, rfl⟩ ⟨eMC, eMS⟩ dL_write_4 (fun _ _ => tw_m_J0_length_8abf5 hw2) tw_y_J0_length_8abf5 tw_v_J0_length_8abf5 hw2 _ dw_w1245 rfl ⟨rfl, rfl, tw_le hfr rfl, tw_le hlo rfl⟩ (Nat.le_of_ble_eq_true rfl) rfl (fun _ => ?_)))
  show dw_Rf (tw_cz z 0 0) b _ (dw_cs a22.2 (dw_s a22.2)) _ [(3, .int a22.1), (0, .ref (b + 0)), (1, .ref (b + r1)), (2, .ref (tw_zS z w2))] [.int (Int32.ofNat (tw_len.getD w2 0)), .int a22.1]
  refine e_icmp_ge (z := tw_cz z 0 0) X dL_write_7 (tgt := 26) (by decide) ?_ ?_
  ·
    exact dw_ckp (by exact ⟨Nat.le_of_ble_eq_true rfl, Nat.le_of_ble_eq_true rfl⟩) (e_vret (z := z) X eB dL_write_26 hret ⟨eMC, eMS⟩ hQ rfl rfl)
  ·
    refine e_aload_n (z := tw_cz z 0 0) X dL_write_10 rfl 1 rfl ?_
    refine e_aload_n (z := tw_cz z 0 0) X dL_write_11 rfl 2 rfl ?_
    refine e_aload_n (z := tw_cz z 0 0) X dL_write_12 rfl 3 rfl ?_
    refine e_iload_n (z := tw_cz z 0 0) X dL_write_13 rfl 0 rfl ?_
    refine dw_ckp (by exact ⟨Nat.le_of_ble_eq_true rfl, Nat.le_of_ble_eq_true rfl⟩) (e_clT (w := w2) (e := (if tw_ok a22.1 (tw_len.getD w2 0) = true then some () else none : Option Unit)) (rv := fun _ => (some (.int ((tw_byt.getD w2 []).getD (Int32.toNatClampNeg a22.1) 0)))) (σ' := fun _ => dw_s (dw_cs a22.2 (dw_s a22.2))) (As := [.int a22.1]) (z := tw_cz z 0 0) X hb ⟨rfl, rfl⟩ ⟨eMC, eMS⟩ dL_write_14 (fun r h => by by_cases hc : tw_ok a22.1 (tw_len.getD w2 0) = true; exact tw_m_J0_charAt_5068e hw2 hc; rw [if_neg hc] at h; cases h) tw_y_J0_charAt_5068e tw_v_J0_charAt_5068e hw2 _ dw_w1246 rfl ⟨rfl, rfl, tw_le hfr rfl, tw_le hlo rfl⟩ (Nat.le_of_ble_eq_true rfl) rfl (fun _ => ?_))
    show dw_Rf (tw_cz z 0 0) b _ (dw_cs (dw_cs a22.2 (dw_s a22.2)) (dw_s (dw_cs a22.2 (dw_s a22.2)))) _ [(3, .int a22.1), (0, .ref (b + 0)), (1, .ref (b + r1)), (2, .ref (tw_zS z w2))] [.int ((tw_byt.getD w2 []).getD (Int32.toNatClampNeg a22.1) 0), .ref (b + r1), .ref (b + 0)]
    refine dw_ckp (by exact ⟨Nat.le_of_ble_eq_true rfl, Nat.le_of_ble_eq_true rfl⟩) (e_callS (c := 0) (s := 0) (As := [.ref (b + 0), .ref (b + r1), .int ((tw_byt.getD w2 []).getD (Int32.toNatClampNeg a22.1) 0)]) (z := tw_cz z 0 0) X hA hb hD ⟨rfl, rfl⟩ ⟨eMC, eMS⟩ dL_write_17 (fun Q h => dw_m_L_put hD h) dw_y_L_put dw_v_L_put _ dw_w1247 rfl ⟨tw_le hfr rfl, tw_le hlo rfl⟩ (Nat.le_of_ble_eq_true rfl) rfl (fun r24 => ?_))
    show dw_Rf (tw_cz z 0 0) b _ r24 _ [(3, .int a22.1), (0, .ref (b + 0)), (1, .ref (b + r1)), (2, .ref (tw_zS z w2))] []
    refine e_iinc (z := tw_cz z 0 0) X dL_write_20 0 rfl (v := (1 : Int32)) (by decide) (by decide) (LL := fun v25 => [(3, .int v25), (0, .ref (b + 0)), (1, .ref (b + r1)), (2, .ref (tw_zS z w2))]) (fun _ => rfl) (fun v25 => ?_)
    refine e_goto (z := tw_cz z 0 0) X dL_write_23 (tgt := 2) (by decide) ?_
    exact hk23 (v25, r24)
def dw_P_L_writeNumber (n : Nat) (r1 : Nat) (x2 : Int32) (Y : dw_S) (Q : dw_S → Prop) : Prop :=
pw_lt (1 : Int32) (fun (v21 : Int32) =>
pw_lp (fun (k23 : (Int32) → Prop) (a22 : Int32) =>
if (x2 / (10 : Int32)) < a22 then (pw_lp (fun (k25 : (Int32 × dw_S) → Prop) (a24 : Int32 × dw_S) =>
if a24.1 ≤ 0 then (Q a24.2)
else (pw_ck (¬ a24.1 = 0) (
dw_P_L_put n r1 ((48 : Int32) + ((x2 / a24.1) - (x2 / a24.1) / (10 : Int32) * (10 : Int32))) a24.2 (fun (r26 : dw_S) =>
pw_lt (a24.1 / (10 : Int32)) (fun (v27 : Int32) =>
k25 (v27, r26)))))) n (a22, Y))
else (pw_lt (a22 * (10 : Int32)) (fun (v28 : Int32) =>
k23 v28))) n v21)
theorem dw_y_L_writeNumber : tw_My yL_writeNumber cL_writeNumber 4 none 3 := ⟨List.mem_of_getElem? dw_w1264, List.mem_of_getElem? dw_w35, by decide +kernel, by decide +kernel, by decide +kernel⟩
theorem dw_v_L_writeNumber : tw_Ms yL_writeNumber := List.mem_of_getElem? dw_w1263
set_option maxRecDepth 100000 in
set_option maxHeartbeats 4000000 in
theorem dw_m_L_writeNumber {l : Launch} {b : Nat} {D : tw_G} {C : Nat → ClassId} {S : Nat → Nat} (hD : D.2 = []) {n : Nat} {r1 : Nat} {x2 : Int32} {Y : dw_S} {Q : dw_S → Prop}  (h : dw_P_L_writeNumber n r1 x2 Y Q) : dw_Met l b D C S yL_writeNumber cL_writeNumber 4 none ({ frames := 5, cells := 0, slots := 0, locals := 113 } : Room) [.ref (b + 0), .ref (b + r1), .int x2] Y (fun _ => none) (fun r => r) Q := by
  refine dw_metOf (dw_P_L_writeNumber n r1 x2 Y Q) h _ _ Q (by decide +kernel) (Nat.le_of_ble_eq_true rfl) ?_
  intro z el eB eD eC eS eR X hA hnm hret hQ
  subst el eD eC eS
  have hb : tw_zB z ≤ b := Nat.le_of_eq eB
  have hA : dw_AK (tw_zB z) (tw_zS z) (tw_zs z) := by rw [eB]; exact hA
  have hfr : (tw_zR z).frames = 5 := by rw [eR]
  have hlo : (tw_zR z).locals = 113 := by rw [eR]
  have eMC : (tw_zR z).cells = 0 := by rw [eR]
  have eMS : (tw_zR z).slots = 0 := by rw [eR]
  have X : tw_X z cL_writeNumber "TreasureWalkLaw" 4 := X
  show dw_Rf (tw_cz z 0 0) b _ Y 0 [(0, .ref (b + 0)), (1, .ref (b + r1)), (2, .int x2)] []
  unfold dw_P_L_writeNumber
  refine e_iconst (z := tw_cz z 0 0) X dL_writeNumber_0 (v := (1 : Int32)) (by decide) ?_
  refine e_istore_n (z := tw_cz z 0 0) X dL_writeNumber_1 rfl (by decide) (LL := fun v21 => [(3, .int v21), (0, .ref (b + 0)), (1, .ref (b + r1)), (2, .int x2)]) (fun _ => rfl) (fun v21 => ?_)
  refine e_lp (α := Int32) (zJ := fun a22 => tw_cz z 0 0) (YJ := fun a22 => Y) (pcJ := 2) (LJ := fun a22 => [(3, .int a22), (0, .ref (b + 0)), (1, .ref (b + r1)), (2, .int x2)]) (stJ := fun a22 => []) (fun k23 hk23 a22 => ?_) n v21
  refine e_iload_n (z := tw_cz z 0 0) X dL_writeNumber_2 rfl 0 rfl ?_
  refine e_iload_n (z := tw_cz z 0 0) X dL_writeNumber_3 rfl 3 rfl ?_
  refine e_bipush (z := tw_cz z 0 0) X dL_writeNumber_4 (v := (10 : Int32)) (by decide) ?_
  refine dw_ckp (by decide) (e_idiv (z := tw_cz z 0 0) X dL_writeNumber_6 ?_)
  refine e_icmp_gt (z := tw_cz z 0 0) X dL_writeNumber_7 (tgt := 18) (by decide) ?_ ?_
  ·
    refine e_lp (α := Int32 × dw_S) (zJ := fun a24 => tw_cz z 0 0) (YJ := fun a24 => a24.2) (pcJ := 18) (LJ := fun a24 => [(3, .int a24.1), (0, .ref (b + 0)), (1, .ref (b + r1)), (2, .int x2)]) (stJ := fun a24 => []) (fun k25 hk25 a24 => ?_) n (a22, Y)
    refine e_iload_n (z := tw_cz z 0 0) X dL_writeNumber_18 rfl 0 rfl ?_
    refine e_if_le (z := tw_cz z 0 0) X dL_writeNumber_19 (tgt := 44) (by decide) ?_ ?_
    ·
      exact dw_ckp (by exact ⟨Nat.le_of_ble_eq_true rfl, Nat.le_of_ble_eq_true rfl⟩) (e_vret (z := z) X eB dL_writeNumber_44 hret ⟨eMC, eMS⟩ hQ rfl rfl)
    ·
      refine e_aload_n (z := tw_cz z 0 0) X dL_writeNumber_22 rfl 1 rfl ?_
      refine e_aload_n (z := tw_cz z 0 0) X dL_writeNumber_23 rfl 2 rfl ?_
      refine e_bipush (z := tw_cz z 0 0) X dL_writeNumber_24 (v := (48 : Int32)) (by decide) ?_
      refine e_iload_n (z := tw_cz z 0 0) X dL_writeNumber_26 rfl 3 rfl ?_
      refine e_iload_n (z := tw_cz z 0 0) X dL_writeNumber_27 rfl 0 rfl ?_
      refine e_idiv (z := tw_cz z 0 0) X dL_writeNumber_28 ?_
      refine e_bipush (z := tw_cz z 0 0) X dL_writeNumber_29 (v := (10 : Int32)) (by decide) ?_
      refine dw_ckp (by decide) (e_irem (z := tw_cz z 0 0) X dL_writeNumber_31 ?_)
      refine e_iadd (z := tw_cz z 0 0) X dL_writeNumber_32 ?_
      refine dw_ckp (by exact ⟨Nat.le_of_ble_eq_true rfl, Nat.le_of_ble_eq_true rfl⟩) (e_callS (c := 0) (s := 0) (As := [.ref (b + 0), .ref (b + r1), .int ((48 : Int32) + ((x2 / a24.1) - (x2 / a24.1) / (10 : Int32) * (10 : Int32)))]) (z := tw_cz z 0 0) X hA hb hD ⟨rfl, rfl⟩ ⟨eMC, eMS⟩ dL_writeNumber_33 (fun Q h => dw_m_L_put hD h) dw_y_L_put dw_v_L_put _ dw_w1247 rfl ⟨tw_le hfr rfl, tw_le hlo rfl⟩ (Nat.le_of_ble_eq_true rfl) rfl (fun r26 => ?_))
      show dw_Rf (tw_cz z 0 0) b _ r26 _ [(3, .int a24.1), (0, .ref (b + 0)), (1, .ref (b + r1)), (2, .int x2)] []
      refine e_iload_n (z := tw_cz z 0 0) X dL_writeNumber_36 rfl 0 rfl ?_
      refine e_bipush (z := tw_cz z 0 0) X dL_writeNumber_37 (v := (10 : Int32)) (by decide) ?_
      refine dw_ckp (by decide) (e_idiv (z := tw_cz z 0 0) X dL_writeNumber_39 ?_)
      refine e_istore_n (z := tw_cz z 0 0) X dL_writeNumber_40 rfl (by decide) (LL := fun v27 => [(3, .int v27), (0, .ref (b + 0)), (1, .ref (b + r1)), (2, .int x2)]) (fun _ => rfl) (fun v27 => ?_)
      refine e_goto (z := tw_cz z 0 0) X dL_writeNumber_41 (tgt := 18) (by decide) ?_
      exact hk25 (v27, r26)
  ·
    refine e_iload_n (z := tw_cz z 0 0) X dL_writeNumber_10 rfl 0 rfl ?_
    refine e_bipush (z := tw_cz z 0 0) X dL_writeNumber_11 (v := (10 : Int32)) (by decide) ?_
    refine e_imul (z := tw_cz z 0 0) X dL_writeNumber_13 ?_
    refine e_istore_n (z := tw_cz z 0 0) X dL_writeNumber_14 rfl (by decide) (LL := fun v28 => [(3, .int v28), (0, .ref (b + 0)), (1, .ref (b + r1)), (2, .int x2)]) (fun _ => rfl) (fun v28 => ?_)
    refine e_goto (z := tw_cz z 0 0) X dL_writeNumber_15 (tgt := 2) (by decide) ?_
    exact hk23 v28
def dw_P_L_writeAll (n : Nat) (r1 : Nat) (w2 : Nat) (r3 : Nat) (Y : dw_S) (Q : dw_S → Prop) : Prop :=
dw_P_L_write n r1 w2 Y (fun (r21 : dw_S) =>
pw_ck (dw_is r21 r3 20) (
pw_lt (Int32.ofNat (dw_l r21 r3)) (fun (v22 : Int32) =>
pw_lt (0 : Int32) (fun (v23 : Int32) =>
pw_lp (fun (k25 : (Int32 × dw_S) → Prop) (a24 : Int32 × dw_S) =>
if v22 ≤ a24.1 then (Q a24.2)
else (pw_ck (dw_is a24.2 r3 20 ∧ tw_ok a24.1 (dw_l a24.2 r3) = true) (
pw_lt (dw_i a24.2 r3 (Int32.toNatClampNeg a24.1)) (fun (v26 : Int32) =>
dw_P_L_write n r1 21 a24.2 (fun (r27 : dw_S) =>
dw_P_L_writeNumber n r1 v26 r27 (fun (r28 : dw_S) =>
pw_lt (a24.1 + (1 : Int32)) (fun (v29 : Int32) =>
k25 (v29, r28)))))))) n (v23, r21)))))
theorem dw_y_L_writeAll : tw_My yL_writeAll cL_writeAll 8 none 4 := ⟨List.mem_of_getElem? dw_w1241, List.mem_of_getElem? dw_w35, by decide +kernel, by decide +kernel, by decide +kernel⟩
theorem dw_v_L_writeAll : tw_Ms yL_writeAll := List.mem_of_getElem? dw_w1240
set_option maxRecDepth 100000 in
set_option maxHeartbeats 4000000 in
theorem dw_m_L_writeAll {l : Launch} {b : Nat} {D : tw_G} {C : Nat → ClassId} {S : Nat → Nat} (hD : D.2 = []) {n : Nat} {r1 : Nat} {w2 : Nat} {r3 : Nat} {Y : dw_S} {Q : dw_S → Prop} (hw2 : w2 < 33) (h : dw_P_L_writeAll n r1 w2 r3 Y Q) : dw_Met l b D C S yL_writeAll cL_writeAll 8 none ({ frames := 7, cells := 0, slots := 0, locals := 143 } : Room) [.ref (b + 0), .ref (b + r1), .ref (S w2), .ref (b + r3)] Y (fun _ => none) (fun r => r) Q := by
  refine dw_metOf (dw_P_L_writeAll n r1 w2 r3 Y Q) h _ _ Q (by decide +kernel) (Nat.le_of_ble_eq_true rfl) ?_
  intro z el eB eD eC eS eR X hA hnm hret hQ
  subst el eD eC eS
  have hb : tw_zB z ≤ b := Nat.le_of_eq eB
  have hA : dw_AK (tw_zB z) (tw_zS z) (tw_zs z) := by rw [eB]; exact hA
  have hfr : (tw_zR z).frames = 7 := by rw [eR]
  have hlo : (tw_zR z).locals = 143 := by rw [eR]
  have eMC : (tw_zR z).cells = 0 := by rw [eR]
  have eMS : (tw_zR z).slots = 0 := by rw [eR]
  have X : tw_X z cL_writeAll "TreasureWalkLaw" 8 := X
  show dw_Rf (tw_cz z 0 0) b _ Y 0 [(0, .ref (b + 0)), (1, .ref (b + r1)), (2, .ref (tw_zS z w2)), (3, .ref (b + r3))] []
  unfold dw_P_L_writeAll
  refine e_aload_n (z := tw_cz z 0 0) X dL_writeAll_0 rfl 0 rfl ?_
  refine e_aload_n (z := tw_cz z 0 0) X dL_writeAll_1 rfl 1 rfl ?_
  refine e_aload_n (z := tw_cz z 0 0) X dL_writeAll_2 rfl 2 rfl ?_
  refine dw_ckp (by exact ⟨Nat.le_of_ble_eq_true rfl, Nat.le_of_ble_eq_true rfl⟩) (e_callS (c := 0) (s := 0) (As := [.ref (b + 0), .ref (b + r1), .ref (tw_zS z w2)]) (z := tw_cz z 0 0) X hA hb hD ⟨rfl, rfl⟩ ⟨eMC, eMS⟩ dL_writeAll_3 (fun Q h => dw_m_L_write hD hw2 h) dw_y_L_write dw_v_L_write _ dw_w1242 rfl ⟨tw_le hfr rfl, tw_le hlo rfl⟩ (Nat.le_of_ble_eq_true rfl) rfl (fun r21 => ?_))
  show dw_Rf (tw_cz z 0 0) b _ r21 _ [(0, .ref (b + 0)), (1, .ref (b + r1)), (2, .ref (tw_zS z w2)), (3, .ref (b + r3))] []
  refine e_aload_n (z := tw_cz z 0 0) X dL_writeAll_6 rfl 3 rfl ?_
  refine e_astore (z := tw_cz z 0 0) X dL_writeAll_7 (by decide) (L' := [(4, .ref (b + r3)), (0, .ref (b + 0)), (1, .ref (b + r1)), (2, .ref (tw_zS z w2)), (3, .ref (b + r3))]) rfl ?_
  refine e_aload (z := tw_cz z 0 0) X dL_writeAll_9 0 rfl ?_
  refine e_alen (k := r3) (kd := 20) (a := 0) (ty := .int) (x := (0, .inl (dw_i r21 r3))) (z := tw_cz z 0 0) X dL_writeAll_11 (by decide) (fun h => dw_E20 h) rfl ?_
  refine e_istore (z := tw_cz z 0 0) X dL_writeAll_12 (by decide) (LL := fun v22 => [(5, .int v22), (4, .ref (b + r3)), (0, .ref (b + 0)), (1, .ref (b + r1)), (2, .ref (tw_zS z w2)), (3, .ref (b + r3))]) (fun _ => rfl) (fun v22 => ?_)
  refine e_iconst (z := tw_cz z 0 0) X dL_writeAll_14 (v := (0 : Int32)) (by decide) ?_
  refine e_istore (z := tw_cz z 0 0) X dL_writeAll_15 (by decide) (LL := fun v23 => [(6, .int v23), (5, .int v22), (4, .ref (b + r3)), (0, .ref (b + 0)), (1, .ref (b + r1)), (2, .ref (tw_zS z w2)), (3, .ref (b + r3))]) (fun _ => rfl) (fun v23 => ?_)
  refine dw_Rf.sub [0, 1, 2, 3, 4] rfl ?_
  refine e_lp (α := Int32 × dw_S) (zJ := fun a24 => tw_cz z 0 0) (YJ := fun a24 => a24.2) (pcJ := 17) (LJ := fun a24 => [(6, .int a24.1), (5, .int v22), (4, .ref (b + r3)), (0, .ref (b + 0)), (1, .ref (b + r1))]) (stJ := fun a24 => []) (fun k25 hk25 a24 => ?_) n (v23, r21)
  refine e_iload (z := tw_cz z 0 0) X dL_writeAll_17 0 rfl ?_
  refine e_iload (z := tw_cz z 0 0) X dL_writeAll_19 1 rfl ?_
  refine e_icmp_ge (z := tw_cz z 0 0) X dL_writeAll_21 (tgt := 51) (by decide) ?_ ?_
  ·
    exact dw_ckp (by exact ⟨Nat.le_of_ble_eq_true rfl, Nat.le_of_ble_eq_true rfl⟩) (e_vret (z := z) X eB dL_writeAll_51 hret ⟨eMC, eMS⟩ hQ rfl rfl)
  ·
    refine e_aload (z := tw_cz z 0 0) X dL_writeAll_24 2 rfl ?_
    refine e_iload (z := tw_cz z 0 0) X dL_writeAll_26 0 rfl ?_
    refine e_iald (k := r3) (z := tw_cz z 0 0) X dL_writeAll_28 ?_
    refine e_istore (z := tw_cz z 0 0) X dL_writeAll_29 (by decide) (LL := fun v26 => [(7, .int v26), (6, .int a24.1), (5, .int v22), (4, .ref (b + r3)), (0, .ref (b + 0)), (1, .ref (b + r1))]) (fun _ => rfl) (fun v26 => ?_)
    refine e_aload_n (z := tw_cz z 0 0) X dL_writeAll_31 rfl 4 rfl ?_
    refine e_aload_n (z := tw_cz z 0 0) X dL_writeAll_32 rfl 5 rfl ?_
    refine e_ldcS (z := tw_cz z 0 0) X dL_writeAll_33 (j := 21) tw_l_W_100 ?_
    refine dw_ckp (by exact ⟨Nat.le_of_ble_eq_true rfl, Nat.le_of_ble_eq_true rfl⟩) (e_callS (c := 0) (s := 0) (As := [.ref (b + 0), .ref (b + r1), .ref (tw_zS z 21)]) (z := tw_cz z 0 0) X hA hb hD ⟨rfl, rfl⟩ ⟨eMC, eMS⟩ dL_writeAll_35 (fun Q h => dw_m_L_write hD (by decide) h) dw_y_L_write dw_v_L_write _ dw_w1242 rfl ⟨tw_le hfr rfl, tw_le hlo rfl⟩ (Nat.le_of_ble_eq_true rfl) rfl (fun r27 => ?_))
    show dw_Rf (tw_cz z 0 0) b _ r27 _ [(7, .int v26), (6, .int a24.1), (5, .int v22), (4, .ref (b + r3)), (0, .ref (b + 0)), (1, .ref (b + r1))] []
    refine e_aload_n (z := tw_cz z 0 0) X dL_writeAll_38 rfl 4 rfl ?_
    refine e_aload_n (z := tw_cz z 0 0) X dL_writeAll_39 rfl 5 rfl ?_
    refine e_iload (z := tw_cz z 0 0) X dL_writeAll_40 0 rfl ?_
    refine dw_ckp (by exact ⟨Nat.le_of_ble_eq_true rfl, Nat.le_of_ble_eq_true rfl⟩) (e_callS (c := 0) (s := 0) (As := [.ref (b + 0), .ref (b + r1), .int v26]) (z := tw_cz z 0 0) X hA hb hD ⟨rfl, rfl⟩ ⟨eMC, eMS⟩ dL_writeAll_42 (fun Q h => dw_m_L_writeNumber hD h) dw_y_L_writeNumber dw_v_L_writeNumber _ dw_w1262 rfl ⟨tw_le hfr rfl, tw_le hlo rfl⟩ (Nat.le_of_ble_eq_true rfl) rfl (fun r28 => ?_))
    show dw_Rf (tw_cz z 0 0) b _ r28 _ [(7, .int v26), (6, .int a24.1), (5, .int v22), (4, .ref (b + r3)), (0, .ref (b + 0)), (1, .ref (b + r1))] []
    refine e_iinc (z := tw_cz z 0 0) X dL_writeAll_45 1 rfl (v := (1 : Int32)) (by decide) (by decide) (LL := fun v29 => [(6, .int v29), (7, .int v26), (5, .int v22), (4, .ref (b + r3)), (0, .ref (b + 0)), (1, .ref (b + r1))]) (fun _ => rfl) (fun v29 => ?_)
    refine e_goto (z := tw_cz z 0 0) X dL_writeAll_48 (tgt := 17) (by decide) ?_
    exact dw_Rf.sub [0, 2, 3, 4, 5] rfl (hk25 (v29, r28))
def dw_P_L_loadText (n : Nat) (r1 : Nat) (Y : dw_S) (Q : Int32 × dw_S → Prop) : Prop :=
pw_ck (dw_is Y r1 20 ∧ tw_ok (0 : Int32) (dw_l Y r1) = true) (
pw_lt (dw_i Y r1 (Int32.toNatClampNeg (0 : Int32))) (fun (v21 : Int32) =>
tw_jn (fun (a22 : dw_S) =>
pw_ck (dw_is a22 r1 20 ∧ tw_ok (0 : Int32) (dw_l a22 r1) = true) (pw_lt (dw_pi a22 r1 (Int32.toNatClampNeg (0 : Int32)) (0 : Int32)) (fun (Y24 : dw_S) =>
dw_P_L_load n v21 Y24 (fun (r25 : Int32 × dw_S) =>
Q (r25.1, r25.2))))) (fun (j23 : (dw_S) → Prop) =>
if (v21 - v21 / (20 : Int32) * (20 : Int32)) ≤ 0 then (j23 Y)
else (dw_P_L_flush n r1 Y (fun (r26 : dw_S) =>
j23 r26)))))
theorem dw_y_L_loadText : tw_My yL_loadText cL_loadText 3 (some .int) 2 := ⟨List.mem_of_getElem? dw_w1541, List.mem_of_getElem? dw_w35, by decide +kernel, by decide +kernel, by decide +kernel⟩
theorem dw_v_L_loadText : tw_Ms yL_loadText := List.mem_of_getElem? dw_w1540
set_option maxRecDepth 100000 in
set_option maxHeartbeats 4000000 in
theorem dw_m_L_loadText {l : Launch} {b : Nat} {D : tw_G} {C : Nat → ClassId} {S : Nat → Nat} (hD : D.2 = []) {n : Nat} {r1 : Nat} {Y : dw_S} {Q : Int32 × dw_S → Prop} (hst : l.stackTraces = false)  (h : dw_P_L_loadText n r1 Y Q) : dw_Met l b D C S yL_loadText cL_loadText 3 (some .int) ({ frames := 13, cells := 1, slots := 6, locals := 279 } : Room) [.ref (b + 0), .ref (b + r1)] Y (fun r => some (.int r.1)) (fun r => r.2) Q := by
  refine dw_metOf (dw_P_L_loadText n r1 Y Q) h _ _ Q (by decide +kernel) (Nat.le_of_ble_eq_true rfl) ?_
  intro z el eB eD eC eS eR X hA hnm hret hQ
  subst el eD eC eS
  have hb : tw_zB z ≤ b := Nat.le_of_eq eB
  have hA : dw_AK (tw_zB z) (tw_zS z) (tw_zs z) := by rw [eB]; exact hA
  have hfr : (tw_zR z).frames = 13 := by rw [eR]
  have hlo : (tw_zR z).locals = 279 := by rw [eR]
  have eMC : (tw_zR z).cells = 1 := by rw [eR]
  have eMS : (tw_zR z).slots = 6 := by rw [eR]
  have X : tw_X z cL_loadText "TreasureWalkLaw" 3 := X
  show dw_Rf (tw_cz z 0 0) b _ Y 0 [(0, .ref (b + 0)), (1, .ref (b + r1))] []
  unfold dw_P_L_loadText
  refine e_aload_n (z := tw_cz z 0 0) X dL_loadText_0 rfl 1 rfl ?_
  refine e_iconst (z := tw_cz z 0 0) X dL_loadText_1 (v := (0 : Int32)) (by decide) ?_
  refine e_iald (k := r1) (z := tw_cz z 0 0) X dL_loadText_2 ?_
  refine e_istore_n (z := tw_cz z 0 0) X dL_loadText_3 rfl (by decide) (LL := fun v21 => [(2, .int v21), (0, .ref (b + 0)), (1, .ref (b + r1))]) (fun _ => rfl) (fun v21 => ?_)
  refine e_iload_n (z := tw_cz z 0 0) X dL_loadText_4 rfl 0 rfl ?_
  refine e_bipush (z := tw_cz z 0 0) X dL_loadText_5 (v := (20 : Int32)) (by decide) ?_
  refine dw_ckp (by decide) (e_irem (z := tw_cz z 0 0) X dL_loadText_7 ?_)
  refine e_jn (α := dw_S) (zJ := fun a22 => tw_cz z 0 0) (YJ := fun a22 => a22) (pcJ := 16) (LJ := fun a22 => [(2, .int v21), (0, .ref (b + 0)), (1, .ref (b + r1))]) (stJ := fun a22 => []) (fun a22 => ?_) (fun j23 hj23 => ?_)
  ·
    refine e_aload_n (z := tw_cz z 0 0) X dL_loadText_16 rfl 2 rfl ?_
    refine e_iconst (z := tw_cz z 0 0) X dL_loadText_17 (v := (0 : Int32)) (by decide) ?_
    refine e_iconst (z := tw_cz z 0 0) X dL_loadText_18 (v := (0 : Int32)) (by decide) ?_
    refine e_iast (k := r1) (z := tw_cz z 0 0) X hb dL_loadText_19 (fun Y24 => ?_)
    refine e_aload_n (z := tw_cz z 0 0) X dL_loadText_20 rfl 1 rfl ?_
    refine e_iload_n (z := tw_cz z 0 0) X dL_loadText_21 rfl 0 rfl ?_
    refine dw_ckp (by exact ⟨Nat.le_of_ble_eq_true rfl, Nat.le_of_ble_eq_true rfl⟩) (e_callW (c := 0) (s := 0) (As := [.ref (b + 0), .int v21]) (z := tw_cz z 0 0) X hA hb hD ⟨rfl, rfl⟩ ⟨eMC, eMS⟩ dL_loadText_22 (fun Q h => dw_m_L_load hD hst h) dw_y_L_load _ dw_w748 rfl ⟨tw_le hfr rfl, tw_le hlo rfl⟩ (Nat.le_of_ble_eq_true rfl) rfl (fun r25 => ?_))
    show dw_Rf (tw_cz z 1 6) b _ r25.2 _ [(2, .int v21), (0, .ref (b + 0)), (1, .ref (b + r1))] [.int r25.1]
    exact dw_ckp (by exact ⟨Nat.le_of_ble_eq_true rfl, Nat.le_of_ble_eq_true rfl⟩) (e_iret (z := z) X eB dL_loadText_25 hret ⟨eMC, eMS⟩ hQ rfl rfl)
  refine e_if_le (z := tw_cz z 0 0) X dL_loadText_8 (tgt := 16) (by decide) ?_ ?_
  ·
    exact hj23 Y
  ·
    refine e_aload_n (z := tw_cz z 0 0) X dL_loadText_11 rfl 1 rfl ?_
    refine e_aload_n (z := tw_cz z 0 0) X dL_loadText_12 rfl 2 rfl ?_
    refine dw_ckp (by exact ⟨Nat.le_of_ble_eq_true rfl, Nat.le_of_ble_eq_true rfl⟩) (e_callS (c := 0) (s := 0) (As := [.ref (b + 0), .ref (b + r1)]) (z := tw_cz z 0 0) X hA hb hD ⟨rfl, rfl⟩ ⟨eMC, eMS⟩ dL_loadText_13 (fun Q h => dw_m_L_flush hD h) dw_y_L_flush dw_v_L_flush _ dw_w1250 rfl ⟨tw_le hfr rfl, tw_le hlo rfl⟩ (Nat.le_of_ble_eq_true rfl) rfl (fun r26 => ?_))
    show dw_Rf (tw_cz z 0 0) b _ r26 _ [(2, .int v21), (0, .ref (b + 0)), (1, .ref (b + r1))] []
    exact hj23 r26
def dw_P_J5_getValue_6d5f1 (th : Nat) (Y : dw_S) (Q : Nat → Prop) : Prop :=
pw_ck (dw_is Y th 17) (
pw_nn (dw_r Y th 0) (fun (r21 : Nat) =>
Q r21))
theorem dw_y_J5_getValue_6d5f1 : tw_My yJ5_getValue_6d5f1 cJ5_getValue_6d5f1 1 (some (.array .byte)) 0 := ⟨List.mem_of_getElem? dw_w1426, List.mem_of_getElem? dw_w64, by decide +kernel, by decide +kernel, by decide +kernel⟩
theorem dw_v_J5_getValue_6d5f1 : dw_Mv yJ5_getValue_6d5f1 "java/lang/StringBuilder" := ⟨List.mem_of_getElem? dw_w1423, List.mem_of_getElem? dw_w1425⟩
set_option maxRecDepth 100000 in
set_option maxHeartbeats 4000000 in
theorem dw_m_J5_getValue_6d5f1 {l : Launch} {b : Nat} {D : tw_G} {C : Nat → ClassId} {S : Nat → Nat} (hD : D.2 = []) {th : Nat} {Y : dw_S} {Q : Nat → Prop}  (h : dw_P_J5_getValue_6d5f1 th Y Q) : dw_Met l b D C S yJ5_getValue_6d5f1 cJ5_getValue_6d5f1 1 (some (.array .byte)) ({ frames := 0, cells := 0, slots := 0, locals := 0 } : Room) [.ref (b + th)] Y (fun r => some (.ref (b + r))) (fun _ => Y) Q := by
  refine dw_metOf (dw_P_J5_getValue_6d5f1 th Y Q) h _ _ Q (by decide +kernel) (Nat.le_of_ble_eq_true rfl) ?_
  intro z el eB eD eC eS eR X hA hnm hret hQ
  subst el eD eC eS
  have hb : tw_zB z ≤ b := Nat.le_of_eq eB
  have hA : dw_AK (tw_zB z) (tw_zS z) (tw_zs z) := by rw [eB]; exact hA
  have hfr : (tw_zR z).frames = 0 := by rw [eR]
  have hlo : (tw_zR z).locals = 0 := by rw [eR]
  have eMC : (tw_zR z).cells = 0 := by rw [eR]
  have eMS : (tw_zR z).slots = 0 := by rw [eR]
  have X : tw_X z cJ5_getValue_6d5f1 "java/lang/AbstractStringBuilder" 1 := X
  show dw_Rf (tw_cz z 0 0) b _ Y 0 [(0, .ref (b + th))] []
  unfold dw_P_J5_getValue_6d5f1
  refine e_aload_n (z := tw_cz z 0 0) X dJ5_getValue_6d5f1_0 rfl 0 rfl ?_
  refine e_getf (ci := 17) (T := TJ4) (f := 0) (k := th) (z := tw_cz z 0 0) X dJ5_getValue_6d5f1_1 (Or.inl ⟨_, dw_w1289⟩) dw_in17 rfl (by decide) (by decide) (fun h => dw_E17 h) rfl ?_
  refine e_nn (r := (dw_r Y th 0)) (LL := fun _ => [(0, .ref (b + th))]) (SS := fun q => dw_v b q :: []) (fun r21 => ?_)
  show dw_Rf (tw_cz z 0 0) b _ Y _ [(0, .ref (b + th))] [.ref (b + r21)]
  exact dw_ckp (by exact ⟨Nat.le_of_ble_eq_true rfl, Nat.le_of_ble_eq_true rfl⟩) (e_aret (z := z) X eB dJ5_getValue_6d5f1_4 hret (Or.inr ⟨_, rfl⟩) (Or.inr ⟨_, rfl⟩) ⟨eMC, eMS⟩ hQ rfl rfl)
def dw_P_J5_length_8abf5 (th : Nat) (Y : dw_S) (Q : Int32 → Prop) : Prop :=
pw_ck (dw_is Y th 17) (
Q (dw_i Y th 3))
theorem dw_y_J5_length_8abf5 : tw_My yJ5_length_8abf5 cJ5_length_8abf5 1 (some .int) 0 := ⟨List.mem_of_getElem? dw_w1434, List.mem_of_getElem? dw_w64, by decide +kernel, by decide +kernel, by decide +kernel⟩
theorem dw_v_J5_length_8abf5 : Cond.instanceMethod yJ5_length_8abf5 ∈ lw_tbl ∧ True := ⟨List.mem_of_getElem? dw_w1428, trivial⟩
set_option maxRecDepth 100000 in
set_option maxHeartbeats 4000000 in
theorem dw_m_J5_length_8abf5 {l : Launch} {b : Nat} {D : tw_G} {C : Nat → ClassId} {S : Nat → Nat} (hD : D.2 = []) {th : Nat} {Y : dw_S} {Q : Int32 → Prop}  (h : dw_P_J5_length_8abf5 th Y Q) : dw_Met l b D C S yJ5_length_8abf5 cJ5_length_8abf5 1 (some .int) ({ frames := 0, cells := 0, slots := 0, locals := 0 } : Room) [.ref (b + th)] Y (fun r => some (.int r)) (fun _ => Y) Q := by
  refine dw_metOf (dw_P_J5_length_8abf5 th Y Q) h _ _ Q (by decide +kernel) (Nat.le_of_ble_eq_true rfl) ?_
  intro z el eB eD eC eS eR X hA hnm hret hQ
  subst el eD eC eS
  have hb : tw_zB z ≤ b := Nat.le_of_eq eB
  have hA : dw_AK (tw_zB z) (tw_zS z) (tw_zs z) := by rw [eB]; exact hA
  have hfr : (tw_zR z).frames = 0 := by rw [eR]
  have hlo : (tw_zR z).locals = 0 := by rw [eR]
  have eMC : (tw_zR z).cells = 0 := by rw [eR]
  have eMS : (tw_zR z).slots = 0 := by rw [eR]
  have X : tw_X z cJ5_length_8abf5 "java/lang/AbstractStringBuilder" 1 := X
  show dw_Rf (tw_cz z 0 0) b _ Y 0 [(0, .ref (b + th))] []
  unfold dw_P_J5_length_8abf5
  refine e_aload_n (z := tw_cz z 0 0) X dJ5_length_8abf5_0 rfl 0 rfl ?_
  refine e_getf (ci := 17) (T := TJ4) (f := 3) (k := th) (z := tw_cz z 0 0) X dJ5_length_8abf5_1 (Or.inl ⟨_, dw_w1292⟩) dw_in17 rfl (by decide) (by decide) (fun h => dw_E17 h) rfl ?_
  exact dw_ckp (by exact ⟨Nat.le_of_ble_eq_true rfl, Nat.le_of_ble_eq_true rfl⟩) (e_iret (z := z) X eB dJ5_length_8abf5_4 hret ⟨eMC, eMS⟩ hQ rfl rfl)
def dw_P_J4_length_8abf5 (th : Nat) (Y : dw_S) (Q : Int32 → Prop) : Prop :=
pw_ck (dw_is Y th 17) (
dw_P_J5_length_8abf5 th Y (fun (r21 : Int32) =>
Q r21))
theorem dw_y_J4_length_8abf5 : tw_My yJ4_length_8abf5 cJ4_length_8abf5 1 (some .int) 0 := ⟨List.mem_of_getElem? dw_w1432, List.mem_of_getElem? dw_w65, by decide +kernel, by decide +kernel, by decide +kernel⟩
theorem dw_v_J4_length_8abf5 : Cond.instanceMethod yJ4_length_8abf5 ∈ lw_tbl ∧ True := ⟨List.mem_of_getElem? dw_w1431, trivial⟩
set_option maxRecDepth 100000 in
set_option maxHeartbeats 4000000 in
theorem dw_m_J4_length_8abf5 {l : Launch} {b : Nat} {D : tw_G} {C : Nat → ClassId} {S : Nat → Nat} (hD : D.2 = []) {th : Nat} {Y : dw_S} {Q : Int32 → Prop}  (h : dw_P_J4_length_8abf5 th Y Q) : dw_Met l b D C S yJ4_length_8abf5 cJ4_length_8abf5 1 (some .int) ({ frames := 1, cells := 0, slots := 0, locals := 20 } : Room) [.ref (b + th)] Y (fun r => some (.int r)) (fun _ => Y) Q := by
  refine dw_metOf (dw_P_J4_length_8abf5 th Y Q) h _ _ Q (by decide +kernel) (Nat.le_of_ble_eq_true rfl) ?_
  intro z el eB eD eC eS eR X hA hnm hret hQ
  subst el eD eC eS
  have hb : tw_zB z ≤ b := Nat.le_of_eq eB
  have hA : dw_AK (tw_zB z) (tw_zS z) (tw_zs z) := by rw [eB]; exact hA
  have hfr : (tw_zR z).frames = 1 := by rw [eR]
  have hlo : (tw_zR z).locals = 20 := by rw [eR]
  have eMC : (tw_zR z).cells = 0 := by rw [eR]
  have eMS : (tw_zR z).slots = 0 := by rw [eR]
  have X : tw_X z cJ4_length_8abf5 "java/lang/StringBuilder" 1 := X
  show dw_Rf (tw_cz z 0 0) b _ Y 0 [(0, .ref (b + th))] []
  unfold dw_P_J4_length_8abf5
  refine e_aload_n (z := tw_cz z 0 0) X dJ4_length_8abf5_0 rfl 0 rfl ?_
  refine dw_ckq (by exact ⟨Nat.le_of_ble_eq_true rfl, Nat.le_of_ble_eq_true rfl⟩) (e_callU (k := th) (ci := 17) (Cn := "java/lang/StringBuilder") (T := TJ4) (N := 4) (c := 0) (s := 0) (As := []) (z := tw_cz z 0 0) X hA hb hD ⟨rfl, rfl⟩ ⟨eMC, eMS⟩ dJ4_length_8abf5_1 (fun Q h => dw_m_J5_length_8abf5 hD h) dw_y_J5_length_8abf5 dw_v_J5_length_8abf5.1 (List.mem_of_getElem? dw_w1429) (List.mem_of_getElem? dw_w1301) (by decide) _ dw_w1433 (by decide) rfl (fun h => dw_E17 h) rfl ⟨tw_le hfr rfl, tw_le hlo rfl⟩ (Nat.le_of_ble_eq_true rfl) rfl (fun r21 => ?_))
  show dw_Rf (tw_cz z 0 0) b _ Y _ [(0, .ref (b + th))] [.int r21]
  exact dw_ckp (by exact ⟨Nat.le_of_ble_eq_true rfl, Nat.le_of_ble_eq_true rfl⟩) (e_iret (z := z) X eB dJ4_length_8abf5_4 hret ⟨eMC, eMS⟩ hQ rfl rfl)
def dw_P_J5_isLatin1_aae02 (th : Nat) (Y : dw_S) (Q : Int32 → Prop) : Prop :=
tw_jn (fun (a21 : Int32) =>
pw_ck (tw_01 a21 = true) (Q a21)) (fun (j22 : (Int32) → Prop) =>
tw_jn (fun (a23 : Unit) =>
j22 (0 : Int32)) (fun (j24 : (Unit) → Prop) =>
pw_ck (dw_is Y th 17) (
if ¬ (dw_i Y th 1) = 0 then (j24 ())
else (j22 (1 : Int32)))))
theorem dw_y_J5_isLatin1_aae02 : tw_My yJ5_isLatin1_aae02 cJ5_isLatin1_aae02 1 (some .boolean) 0 := ⟨List.mem_of_getElem? dw_w1345, List.mem_of_getElem? dw_w64, by decide +kernel, by decide +kernel, by decide +kernel⟩
theorem dw_v_J5_isLatin1_aae02 : dw_Mv yJ5_isLatin1_aae02 "java/lang/StringBuilder" := ⟨List.mem_of_getElem? dw_w1342, List.mem_of_getElem? dw_w1344⟩
set_option maxRecDepth 100000 in
set_option maxHeartbeats 4000000 in
theorem dw_m_J5_isLatin1_aae02 {l : Launch} {b : Nat} {D : tw_G} {C : Nat → ClassId} {S : Nat → Nat} (hD : D.2 = []) {th : Nat} {Y : dw_S} {Q : Int32 → Prop}  (h : dw_P_J5_isLatin1_aae02 th Y Q) : dw_Met l b D C S yJ5_isLatin1_aae02 cJ5_isLatin1_aae02 1 (some .boolean) ({ frames := 0, cells := 0, slots := 0, locals := 0 } : Room) [.ref (b + th)] Y (fun r => some (.int r)) (fun _ => Y) Q := by
  refine dw_metOf (dw_P_J5_isLatin1_aae02 th Y Q) h _ _ Q (by decide +kernel) (Nat.le_of_ble_eq_true rfl) ?_
  intro z el eB eD eC eS eR X hA hnm hret hQ
  subst el eD eC eS
  have hb : tw_zB z ≤ b := Nat.le_of_eq eB
  have hA : dw_AK (tw_zB z) (tw_zS z) (tw_zs z) := by rw [eB]; exact hA
  have hfr : (tw_zR z).frames = 0 := by rw [eR]
  have hlo : (tw_zR z).locals = 0 := by rw [eR]
  have eMC : (tw_zR z).cells = 0 := by rw [eR]
  have eMS : (tw_zR z).slots = 0 := by rw [eR]
  have X : tw_X z cJ5_isLatin1_aae02 "java/lang/AbstractStringBuilder" 1 := X
  show dw_Rf (tw_cz z 0 0) b _ Y 0 [(0, .ref (b + th))] []
  unfold dw_P_J5_isLatin1_aae02
  refine e_scom (z := tw_cz z 0 0) X dJ5_isLatin1_aae02_0 dw_w1281 ?_
  refine e_jn (α := Int32) (zJ := fun a21 => tw_cz z 0 0) (YJ := fun a21 => Y) (pcJ := 18) (LJ := fun a21 => []) (stJ := fun a21 => [.int a21]) (fun a21 => ?_) (fun j22 hj22 => ?_)
  ·
    exact dw_ckr (by exact ⟨Nat.le_of_ble_eq_true rfl, Nat.le_of_ble_eq_true rfl⟩) (e_zret (z := z) X eB dJ5_isLatin1_aae02_18 hret ⟨eMC, eMS⟩ hQ rfl rfl)
  refine e_jn (α := Unit) (zJ := fun a23 => tw_cz z 0 0) (YJ := fun a23 => Y) (pcJ := 17) (LJ := fun a23 => []) (stJ := fun a23 => []) (fun a23 => ?_) (fun j24 hj24 => ?_)
  ·
    refine e_iconst (z := tw_cz z 0 0) X dJ5_isLatin1_aae02_17 (v := (0 : Int32)) (by decide) ?_
    exact hj22 (0 : Int32)
  refine dw_Rf.eq (E' := if (1 : Int32) = 0 then False else _) (fun h => by rw [if_neg (by decide)]; exact h) ?_
  refine e_if_eq (z := tw_cz z 0 0) X dJ5_isLatin1_aae02_3 (tgt := 17) (by decide) (fun h => h.elim) ?_
  refine e_aload_n (z := tw_cz z 0 0) X dJ5_isLatin1_aae02_6 rfl 0 rfl ?_
  refine e_getf (ci := 17) (T := TJ4) (f := 1) (k := th) (z := tw_cz z 0 0) X dJ5_isLatin1_aae02_7 (Or.inl ⟨_, dw_w1290⟩) dw_in17 rfl (by decide) (by decide) (fun h => dw_E17 h) rfl ?_
  refine e_if_ne (z := tw_cz z 0 0) X dJ5_isLatin1_aae02_10 (tgt := 17) (by decide) ?_ ?_
  ·
    exact dw_Rf.sub [] rfl (hj24 ())
  ·
    refine e_iconst (z := tw_cz z 0 0) X dJ5_isLatin1_aae02_13 (v := (1 : Int32)) (by decide) ?_
    refine e_goto (z := tw_cz z 0 0) X dJ5_isLatin1_aae02_14 (tgt := 18) (by decide) ?_
    exact dw_Rf.sub [] rfl (hj22 (1 : Int32))
def dw_P_J7_checkLength_df160 (x0 : Int32) (x1 : Int32) (Y : dw_S) (Q : dw_S → Prop) : Prop :=
if x0 ≤ x1 then (Q Y)
else (False)
theorem dw_y_J7_checkLength_df160 : tw_My yJ7_checkLength_df160 cJ7_checkLength_df160 2 none 2 := ⟨List.mem_of_getElem? dw_w1444, List.mem_of_getElem? dw_w41, by decide +kernel, by decide +kernel, by decide +kernel⟩
theorem dw_v_J7_checkLength_df160 : tw_Ms yJ7_checkLength_df160 := List.mem_of_getElem? dw_w1443
set_option maxRecDepth 100000 in
set_option maxHeartbeats 4000000 in
theorem dw_m_J7_checkLength_df160 {l : Launch} {b : Nat} {D : tw_G} {C : Nat → ClassId} {S : Nat → Nat} (hD : D.2 = []) {x0 : Int32} {x1 : Int32} {Y : dw_S} {Q : dw_S → Prop}  (h : dw_P_J7_checkLength_df160 x0 x1 Y Q) : dw_Met l b D C S yJ7_checkLength_df160 cJ7_checkLength_df160 2 none ({ frames := 0, cells := 0, slots := 0, locals := 0 } : Room) [.int x0, .int x1] Y (fun _ => none) (fun r => r) Q := by
  refine dw_metOf (dw_P_J7_checkLength_df160 x0 x1 Y Q) h _ _ Q (by decide +kernel) (Nat.le_of_ble_eq_true rfl) ?_
  intro z el eB eD eC eS eR X hA hnm hret hQ
  subst el eD eC eS
  have hb : tw_zB z ≤ b := Nat.le_of_eq eB
  have hA : dw_AK (tw_zB z) (tw_zS z) (tw_zs z) := by rw [eB]; exact hA
  have hfr : (tw_zR z).frames = 0 := by rw [eR]
  have hlo : (tw_zR z).locals = 0 := by rw [eR]
  have eMC : (tw_zR z).cells = 0 := by rw [eR]
  have eMS : (tw_zR z).slots = 0 := by rw [eR]
  have X : tw_X z cJ7_checkLength_df160 "java/util/Arrays" 2 := X
  show dw_Rf (tw_cz z 0 0) b _ Y 0 [(0, .int x0), (1, .int x1)] []
  unfold dw_P_J7_checkLength_df160
  refine e_iload_n (z := tw_cz z 0 0) X dJ7_checkLength_df160_0 rfl 1 rfl ?_
  refine e_iload_n (z := tw_cz z 0 0) X dJ7_checkLength_df160_1 rfl 0 rfl ?_
  refine e_icmp_ge (z := tw_cz z 0 0) X dJ7_checkLength_df160_2 (tgt := 37) (by decide) ?_ ?_
  ·
    exact dw_ckp (by exact ⟨Nat.le_of_ble_eq_true rfl, Nat.le_of_ble_eq_true rfl⟩) (e_vret (z := z) X eB dJ7_checkLength_df160_37 hret ⟨eMC, eMS⟩ hQ rfl rfl)
  ·
    exact fun h => h.elim
def dw_P_J7_copyOfRangeByte_39247 (r0 : Nat) (x1 : Int32) (x2 : Int32) (Y : dw_S) (Q : Nat × dw_S → Prop) : Prop :=
dw_P_J7_checkLength_df160 x1 x2 Y (fun (r21 : dw_S) =>
pw_lt (x2 - x1) (fun (v22 : Int32) =>
pw_ck ((¬ v22 < 0 ∧ (Int32.toNatClampNeg v22) ≤ 10000) ∧ 1 ≤ 1 ∧ (0 + (Int32.toNatClampNeg v22)) ≤ 32) (
pw_al (dw_n r21) (fun (q23 : Nat) => pw_lt (dw_nw r21 q23 22 (Int32.toNatClampNeg v22) (fun _ => 0) (fun _ => none)) (fun (Y24 : dw_S) =>
pw_ck (dw_is Y24 r0 22) (
pw_ck (1 ≤ 1 ∧ (0 + (Int32.toNatClampNeg v22)) ≤ 32) (
pw_ck ((dw_is Y24 r0 22 ∧ dw_is Y24 q23 22) ∧ dw_cpo x1 (0 : Int32) (if v22 < ((Int32.ofNat (dw_l Y24 r0)) - x1) then v22 else ((Int32.ofNat (dw_l Y24 r0)) - x1)) (dw_l Y24 r0) (dw_l Y24 q23) ∧ ∀ i, i < Int32.toNatClampNeg (if v22 < ((Int32.ofNat (dw_l Y24 r0)) - x1) then v22 else ((Int32.ofNat (dw_l Y24 r0)) - x1)) → fits .byte (.int (dw_i Y24 r0 (Int32.toNatClampNeg x1 + i))) = true) (pw_lt (dw_pA Y24 q23 (va_cpy (dw_i Y24 r0) (dw_i Y24 q23) (Int32.toNatClampNeg x1) (Int32.toNatClampNeg (0 : Int32)) (Int32.toNatClampNeg (if v22 < ((Int32.ofNat (dw_l Y24 r0)) - x1) then v22 else ((Int32.ofNat (dw_l Y24 r0)) - x1))))) (fun (Y26 : dw_S) =>
pw_ck (1 ≤ 1 ∧ (0 + (Int32.toNatClampNeg v22)) ≤ 32) (Q (q23, Y26)))))))))))
theorem dw_y_J7_copyOfRangeByte_39247 : tw_My yJ7_copyOfRangeByte_39247 cJ7_copyOfRangeByte_39247 5 (some (.array .byte)) 3 := ⟨List.mem_of_getElem? dw_w1441, List.mem_of_getElem? dw_w41, by decide +kernel, by decide +kernel, by decide +kernel⟩
theorem dw_v_J7_copyOfRangeByte_39247 : tw_Ms yJ7_copyOfRangeByte_39247 := List.mem_of_getElem? dw_w1440
set_option maxRecDepth 100000 in
set_option maxHeartbeats 4000000 in
theorem dw_m_J7_copyOfRangeByte_39247 {l : Launch} {b : Nat} {D : tw_G} {C : Nat → ClassId} {S : Nat → Nat} (hD : D.2 = []) {r0 : Nat} {x1 : Int32} {x2 : Int32} {Y : dw_S} {Q : Nat × dw_S → Prop}  (h : dw_P_J7_copyOfRangeByte_39247 r0 x1 x2 Y Q) : dw_Met l b D C S yJ7_copyOfRangeByte_39247 cJ7_copyOfRangeByte_39247 5 (some (.array .byte)) ({ frames := 1, cells := 1, slots := 32, locals := 60 } : Room) [.ref (b + r0), .int x1, .int x2] Y (fun r => some (.ref (b + r.1))) (fun r => r.2) Q := by
  refine dw_metOf (dw_P_J7_copyOfRangeByte_39247 r0 x1 x2 Y Q) h _ _ Q (by decide +kernel) (Nat.le_of_ble_eq_true rfl) ?_
  intro z el eB eD eC eS eR X hA hnm hret hQ
  subst el eD eC eS
  have hb : tw_zB z ≤ b := Nat.le_of_eq eB
  have hA : dw_AK (tw_zB z) (tw_zS z) (tw_zs z) := by rw [eB]; exact hA
  have hfr : (tw_zR z).frames = 1 := by rw [eR]
  have hlo : (tw_zR z).locals = 60 := by rw [eR]
  have eMC : (tw_zR z).cells = 1 := by rw [eR]
  have eMS : (tw_zR z).slots = 32 := by rw [eR]
  have X : tw_X z cJ7_copyOfRangeByte_39247 "java/util/Arrays" 5 := X
  show dw_Rf (tw_cz z 0 0) b _ Y 0 [(0, .ref (b + r0)), (1, .int x1), (2, .int x2)] []
  unfold dw_P_J7_copyOfRangeByte_39247
  refine e_iload_n (z := tw_cz z 0 0) X dJ7_copyOfRangeByte_39247_0 rfl 1 rfl ?_
  refine e_iload_n (z := tw_cz z 0 0) X dJ7_copyOfRangeByte_39247_1 rfl 2 rfl ?_
  refine dw_ckp (by exact ⟨Nat.le_of_ble_eq_true rfl, Nat.le_of_ble_eq_true rfl⟩) (e_callS (c := 0) (s := 0) (As := [.int x1, .int x2]) (z := tw_cz z 0 0) X hA hb hD ⟨rfl, rfl⟩ ⟨eMC, eMS⟩ dJ7_copyOfRangeByte_39247_2 (fun Q h => dw_m_J7_checkLength_df160 hD h) dw_y_J7_checkLength_df160 dw_v_J7_checkLength_df160 _ dw_w1442 rfl ⟨tw_le hfr rfl, tw_le hlo rfl⟩ (Nat.le_of_ble_eq_true rfl) rfl (fun r21 => ?_))
  show dw_Rf (tw_cz z 0 0) b _ r21 _ [(0, .ref (b + r0)), (1, .int x1), (2, .int x2)] []
  refine e_iload_n (z := tw_cz z 0 0) X dJ7_copyOfRangeByte_39247_5 rfl 2 rfl ?_
  refine e_iload_n (z := tw_cz z 0 0) X dJ7_copyOfRangeByte_39247_6 rfl 1 rfl ?_
  refine e_isub (z := tw_cz z 0 0) X dJ7_copyOfRangeByte_39247_7 ?_
  refine e_istore_n (z := tw_cz z 0 0) X dJ7_copyOfRangeByte_39247_8 rfl (by decide) (LL := fun v22 => [(3, .int v22), (0, .ref (b + r0)), (1, .int x1), (2, .int x2)]) (fun _ => rfl) (fun v22 => ?_)
  refine e_iload_n (z := tw_cz z 0 0) X dJ7_copyOfRangeByte_39247_9 rfl 0 rfl ?_
  refine e_newb (c := 0) (s := 0) (z := tw_cz z 0 0) X ⟨rfl, rfl⟩ ⟨eMC, eMS⟩ dJ7_copyOfRangeByte_39247_10 hA.1.2.2 (fun q23 Y24 => ?_)
  show dw_Rf (tw_cz z 1 (0 + (Int32.toNatClampNeg v22))) b _ Y24 _ [(3, .int v22), (0, .ref (b + r0)), (1, .int x1), (2, .int x2)] [.ref (b + q23)]
  refine e_astore (z := tw_cz z 1 (0 + (Int32.toNatClampNeg v22))) X dJ7_copyOfRangeByte_39247_12 (by decide) (L' := [(4, .ref (b + q23)), (3, .int v22), (0, .ref (b + r0)), (1, .int x1), (2, .int x2)]) rfl ?_
  refine e_aload_n (z := tw_cz z 1 (0 + (Int32.toNatClampNeg v22))) X dJ7_copyOfRangeByte_39247_14 rfl 2 rfl ?_
  refine e_iload_n (z := tw_cz z 1 (0 + (Int32.toNatClampNeg v22))) X dJ7_copyOfRangeByte_39247_15 rfl 3 rfl ?_
  refine e_aload (z := tw_cz z 1 (0 + (Int32.toNatClampNeg v22))) X dJ7_copyOfRangeByte_39247_16 0 rfl ?_
  refine e_iconst (z := tw_cz z 1 (0 + (Int32.toNatClampNeg v22))) X dJ7_copyOfRangeByte_39247_18 (v := (0 : Int32)) (by decide) ?_
  refine e_aload_n (z := tw_cz z 1 (0 + (Int32.toNatClampNeg v22))) X dJ7_copyOfRangeByte_39247_19 rfl 2 rfl ?_
  refine e_alen (k := r0) (kd := 22) (a := 5) (ty := .byte) (x := (0, .inl (dw_i Y24 r0))) (z := tw_cz z 1 (0 + (Int32.toNatClampNeg v22))) X dJ7_copyOfRangeByte_39247_20 (by decide) (fun h => dw_E22 h) rfl ?_
  refine e_iload_n (z := tw_cz z 1 (0 + (Int32.toNatClampNeg v22))) X dJ7_copyOfRangeByte_39247_21 rfl 3 rfl ?_
  refine e_isub (z := tw_cz z 1 (0 + (Int32.toNatClampNeg v22))) X dJ7_copyOfRangeByte_39247_22 ?_
  refine e_iload_n (z := tw_cz z 1 (0 + (Int32.toNatClampNeg v22))) X dJ7_copyOfRangeByte_39247_23 rfl 1 rfl ?_
  refine e_ck (fun hm25 => ?_)
  refine e_mmin (z := tw_cz z 1 (0 + (Int32.toNatClampNeg v22))) X ⟨by show 1 ≤ (tw_zR z).cells; rw [eMC]; exact hm25.1, by show (0 + (Int32.toNatClampNeg v22)) ≤ (tw_zR z).slots; rw [eMS]; exact hm25.2⟩ dJ7_copyOfRangeByte_39247_24 _ dw_w1339 (tw_le hfr rfl) (tw_le hlo rfl) (Nat.le_of_ble_eq_true rfl) ?_
  refine e_copyb (k0 := r0) (k1 := q23) (z := tw_cz z 1 (0 + (Int32.toNatClampNeg v22))) X hb dJ7_copyOfRangeByte_39247_27 _ dw_w1340 (tw_le hfr rfl) (Nat.le_trans (by decide +kernel) (tw_le hlo (c := 60) rfl)) (fun Y26 => ?_)
  refine e_aload (z := tw_cz z 1 (0 + (Int32.toNatClampNeg v22))) X dJ7_copyOfRangeByte_39247_30 0 rfl ?_
  exact e_aret (z := z) X eB dJ7_copyOfRangeByte_39247_32 hret (Or.inr ⟨_, rfl⟩) (Or.inr ⟨_, rfl⟩) ⟨eMC, eMS⟩ hQ rfl rfl
def dw_P_J7_copyOfRange_39247 (r0 : Nat) (x1 : Int32) (x2 : Int32) (Y : dw_S) (Q : Nat × dw_S → Prop) : Prop :=
tw_jn (fun (a21 : Unit) =>
dw_P_J7_copyOfRangeByte_39247 r0 x1 x2 Y (fun (r23 : Nat × dw_S) =>
Q (r23.1, r23.2))) (fun (j22 : (Unit) → Prop) =>
if ¬ x1 = 0 then (j22 ())
else (pw_ck (dw_is Y r0 22) (
if x2 = (Int32.ofNat (dw_l Y r0)) then (False)
else (j22 ()))))
theorem dw_y_J7_copyOfRange_39247 : tw_My yJ7_copyOfRange_39247 cJ7_copyOfRange_39247 3 (some (.array .byte)) 3 := ⟨List.mem_of_getElem? dw_w1438, List.mem_of_getElem? dw_w41, by decide +kernel, by decide +kernel, by decide +kernel⟩
theorem dw_v_J7_copyOfRange_39247 : tw_Ms yJ7_copyOfRange_39247 := List.mem_of_getElem? dw_w1437
set_option maxRecDepth 100000 in
set_option maxHeartbeats 4000000 in
theorem dw_m_J7_copyOfRange_39247 {l : Launch} {b : Nat} {D : tw_G} {C : Nat → ClassId} {S : Nat → Nat} (hD : D.2 = []) {r0 : Nat} {x1 : Int32} {x2 : Int32} {Y : dw_S} {Q : Nat × dw_S → Prop}  (h : dw_P_J7_copyOfRange_39247 r0 x1 x2 Y Q) : dw_Met l b D C S yJ7_copyOfRange_39247 cJ7_copyOfRange_39247 3 (some (.array .byte)) ({ frames := 2, cells := 1, slots := 32, locals := 84 } : Room) [.ref (b + r0), .int x1, .int x2] Y (fun r => some (.ref (b + r.1))) (fun r => r.2) Q := by
  refine dw_metOf (dw_P_J7_copyOfRange_39247 r0 x1 x2 Y Q) h _ _ Q (by decide +kernel) (Nat.le_of_ble_eq_true rfl) ?_
  intro z el eB eD eC eS eR X hA hnm hret hQ
  subst el eD eC eS
  have hb : tw_zB z ≤ b := Nat.le_of_eq eB
  have hA : dw_AK (tw_zB z) (tw_zS z) (tw_zs z) := by rw [eB]; exact hA
  have hfr : (tw_zR z).frames = 2 := by rw [eR]
  have hlo : (tw_zR z).locals = 84 := by rw [eR]
  have eMC : (tw_zR z).cells = 1 := by rw [eR]
  have eMS : (tw_zR z).slots = 32 := by rw [eR]
  have X : tw_X z cJ7_copyOfRange_39247 "java/util/Arrays" 3 := X
  show dw_Rf (tw_cz z 0 0) b _ Y 0 [(0, .ref (b + r0)), (1, .int x1), (2, .int x2)] []
  unfold dw_P_J7_copyOfRange_39247
  refine e_iload_n (z := tw_cz z 0 0) X dJ7_copyOfRange_39247_0 rfl 1 rfl ?_
  refine e_jn (α := Unit) (zJ := fun a21 => tw_cz z 0 0) (YJ := fun a21 => Y) (pcJ := 10) (LJ := fun a21 => [(0, .ref (b + r0)), (1, .int x1), (2, .int x2)]) (stJ := fun a21 => []) (fun a21 => ?_) (fun j22 hj22 => ?_)
  ·
    refine e_aload_n (z := tw_cz z 0 0) X dJ7_copyOfRange_39247_10 rfl 0 rfl ?_
    refine e_iload_n (z := tw_cz z 0 0) X dJ7_copyOfRange_39247_11 rfl 1 rfl ?_
    refine e_iload_n (z := tw_cz z 0 0) X dJ7_copyOfRange_39247_12 rfl 2 rfl ?_
    refine dw_ckp (by exact ⟨Nat.le_of_ble_eq_true rfl, Nat.le_of_ble_eq_true rfl⟩) (e_callS (c := 0) (s := 0) (As := [.ref (b + r0), .int x1, .int x2]) (z := tw_cz z 0 0) X hA hb hD ⟨rfl, rfl⟩ ⟨eMC, eMS⟩ dJ7_copyOfRange_39247_13 (fun Q h => dw_m_J7_copyOfRangeByte_39247 hD h) dw_y_J7_copyOfRangeByte_39247 dw_v_J7_copyOfRangeByte_39247 _ dw_w1439 rfl ⟨tw_le hfr rfl, tw_le hlo rfl⟩ (Nat.le_of_ble_eq_true rfl) rfl (fun r23 => ?_))
    show dw_Rf (tw_cz z 1 32) b _ r23.2 _ [(0, .ref (b + r0)), (1, .int x1), (2, .int x2)] [.ref (b + r23.1)]
    exact dw_ckp (by exact ⟨Nat.le_of_ble_eq_true rfl, Nat.le_of_ble_eq_true rfl⟩) (e_aret (z := z) X eB dJ7_copyOfRange_39247_16 hret (Or.inr ⟨_, rfl⟩) (Or.inr ⟨_, rfl⟩) ⟨eMC, eMS⟩ hQ rfl rfl)
  refine e_if_ne (z := tw_cz z 0 0) X dJ7_copyOfRange_39247_1 (tgt := 10) (by decide) ?_ ?_
  ·
    exact hj22 ()
  ·
    refine e_iload_n (z := tw_cz z 0 0) X dJ7_copyOfRange_39247_4 rfl 2 rfl ?_
    refine e_aload_n (z := tw_cz z 0 0) X dJ7_copyOfRange_39247_5 rfl 0 rfl ?_
    refine e_alen (k := r0) (kd := 22) (a := 5) (ty := .byte) (x := (0, .inl (dw_i Y r0))) (z := tw_cz z 0 0) X dJ7_copyOfRange_39247_6 (by decide) (fun h => dw_E22 h) rfl ?_
    refine e_icmp_eq (z := tw_cz z 0 0) X dJ7_copyOfRange_39247_7 (tgt := 17) (by decide) ?_ ?_
    ·
      refine e_aload_n (z := tw_cz z 0 0) X dJ7_copyOfRange_39247_17 rfl 0 rfl ?_
      exact fun h => h.elim
    ·
      exact hj22 ()
def dw_P_J0_init_db425 (th : Nat) (r0 : Nat) (Y : dw_S) (Q : dw_S → Prop) : Prop :=
pw_ck (dw_is Y r0 17) (
dw_P_J5_getValue_6d5f1 r0 Y (fun (r21 : Nat) =>
pw_ck (dw_is Y r0 17) (
dw_P_J4_length_8abf5 r0 Y (fun (r22 : Int32) =>
pw_lt r22 (fun (v23 : Int32) =>
pw_ck (dw_is Y r0 17) (
dw_P_J5_isLatin1_aae02 r0 Y (fun (r24 : Int32) =>
tw_jn (fun (a25 : dw_S × Nat × Nat) =>
pw_ck (a25.2.1 ≤ 1 ∧ a25.2.2 ≤ 32) (Q a25.1)) (fun (j26 : (dw_S × Nat × Nat) → Prop) =>
if r24 = 0 then (tw_jn (fun (a27 : Unit) =>
pw_ck (dw_is Y th 16) (pw_lt (dw_pi Y th 1 (1 : Int32)) (fun (Y29 : dw_S) =>
dw_P_J7_copyOfRange_39247 r21 (0 : Int32) (v23 <<< ((1 : Int32) &&& 31)) Y29 (fun (r30 : Nat × dw_S) =>
pw_ck (dw_is r30.2 th 16) (pw_lt (dw_pr r30.2 th 0 (some r30.1)) (fun (Y31 : dw_S) =>
j26 (Y31, 1, 32))))))) (fun (j28 : (Unit) → Prop) =>
pw_ck (dw_is Y r0 17) (
if (dw_i Y r0 2) = 0 then (j28 ())
else (False))))
else (pw_ck (dw_is Y th 16) (pw_lt (dw_pi Y th 1 (0 : Int32)) (fun (Y32 : dw_S) =>
dw_P_J7_copyOfRange_39247 r21 (0 : Int32) v23 Y32 (fun (r33 : Nat × dw_S) =>
pw_ck (dw_is r33.2 th 16) (pw_lt (dw_pr r33.2 th 0 (some r33.1)) (fun (Y34 : dw_S) =>
j26 (Y34, 1, 32)))))))))))))))
theorem dw_y_J0_init_db425 : tw_My yJ0_init_db425 cJ0_init_db425 5 none 2 := ⟨List.mem_of_getElem? dw_w1420, List.mem_of_getElem? dw_w60, by decide +kernel, by decide +kernel, by decide +kernel⟩
theorem dw_v_J0_init_db425 : Cond.instanceMethod yJ0_init_db425 ∈ lw_tbl := List.mem_of_getElem? dw_w1419
set_option maxRecDepth 100000 in
set_option maxHeartbeats 4000000 in
theorem dw_m_J0_init_db425 {l : Launch} {b : Nat} {D : tw_G} {C : Nat → ClassId} {S : Nat → Nat} (hD : D.2 = []) {th : Nat} {r0 : Nat} {Y : dw_S} {Q : dw_S → Prop}  (h : dw_P_J0_init_db425 th r0 Y Q) : dw_Met l b D C S yJ0_init_db425 cJ0_init_db425 5 none ({ frames := 3, cells := 1, slots := 32, locals := 106 } : Room) [.ref (b + th), .ref (b + r0), .null] Y (fun _ => none) (fun r => r) Q := by
  refine dw_metOf (dw_P_J0_init_db425 th r0 Y Q) h _ _ Q (by decide +kernel) (Nat.le_of_ble_eq_true rfl) ?_
  intro z el eB eD eC eS eR X hA hnm hret hQ
  subst el eD eC eS
  have hb : tw_zB z ≤ b := Nat.le_of_eq eB
  have hA : dw_AK (tw_zB z) (tw_zS z) (tw_zs z) := by rw [eB]; exact hA
  have hfr : (tw_zR z).frames = 3 := by rw [eR]
  have hlo : (tw_zR z).locals = 106 := by rw [eR]
  have eMC : (tw_zR z).cells = 1 := by rw [eR]
  have eMS : (tw_zR z).slots = 32 := by rw [eR]
  have X : tw_X z cJ0_init_db425 "java/lang/String" 5 := X
  show dw_Rf (tw_cz z 0 0) b _ Y 0 [(0, .ref (b + th)), (1, .ref (b + r0)), (2, .null)] []
  unfold dw_P_J0_init_db425
  refine e_aload_n (z := tw_cz z 0 0) X dJ0_init_db425_0 rfl 0 rfl ?_
  refine e_obj (z := tw_cz z 0 0) X dJ0_init_db425_1 _ dw_w1421 (List.mem_of_getElem? dw_w76) (List.mem_of_getElem? dw_w77) (tw_le hfr rfl) (tw_le hlo rfl) (Nat.le_of_ble_eq_true rfl) ?_
  refine e_aload_n (z := tw_cz z 0 0) X dJ0_init_db425_4 rfl 1 rfl ?_
  refine dw_ckq (by exact ⟨Nat.le_of_ble_eq_true rfl, Nat.le_of_ble_eq_true rfl⟩) (e_callV (k := r0) (ci := 17) (Cn := "java/lang/StringBuilder") (T := TJ4) (N := 4) (c := 0) (s := 0) (As := []) (z := tw_cz z 0 0) X hA hb hD ⟨rfl, rfl⟩ ⟨eMC, eMS⟩ dJ0_init_db425_5 (fun Q h => dw_m_J5_getValue_6d5f1 hD h) dw_y_J5_getValue_6d5f1 dw_v_J5_getValue_6d5f1 _ dw_w1422 (by decide) rfl (fun h => dw_E17 h) rfl ⟨tw_le hfr rfl, tw_le hlo rfl⟩ (Nat.le_of_ble_eq_true rfl) rfl (fun r21 => ?_))
  show dw_Rf (tw_cz z 0 0) b _ Y _ [(0, .ref (b + th)), (1, .ref (b + r0)), (2, .null)] [.ref (b + r21)]
  refine e_astore_n (z := tw_cz z 0 0) X dJ0_init_db425_8 rfl (by decide) (L' := [(3, .ref (b + r21)), (0, .ref (b + th)), (1, .ref (b + r0)), (2, .null)]) rfl ?_
  refine e_aload_n (z := tw_cz z 0 0) X dJ0_init_db425_9 rfl 2 rfl ?_
  refine dw_ckq (by exact ⟨Nat.le_of_ble_eq_true rfl, Nat.le_of_ble_eq_true rfl⟩) (e_callO (k := r0) (ci := 17) (Cn := "java/lang/StringBuilder") (T := TJ4) (N := 4) (c := 0) (s := 0) (As := []) (z := tw_cz z 0 0) X hA hb hD ⟨rfl, rfl⟩ ⟨eMC, eMS⟩ dJ0_init_db425_10 (fun Q h => dw_m_J4_length_8abf5 hD h) dw_y_J4_length_8abf5 dw_v_J4_length_8abf5.1 (List.mem_of_getElem? dw_w1430) (List.mem_of_getElem? dw_w1429) (List.mem_of_getElem? dw_w1428) (List.mem_of_getElem? dw_w1434) (by decide) rfl _ dw_w1427 (by decide) rfl (fun h => dw_E17 h) rfl ⟨tw_le hfr rfl, tw_le hlo rfl⟩ (Nat.le_of_ble_eq_true rfl) rfl (fun r22 => ?_))
  show dw_Rf (tw_cz z 0 0) b _ Y _ [(3, .ref (b + r21)), (0, .ref (b + th)), (1, .ref (b + r0)), (2, .null)] [.int r22]
  refine e_istore (z := tw_cz z 0 0) X dJ0_init_db425_13 (by decide) (LL := fun v23 => [(4, .int v23), (3, .ref (b + r21)), (0, .ref (b + th)), (1, .ref (b + r0)), (2, .null)]) (fun _ => rfl) (fun v23 => ?_)
  refine e_aload_n (z := tw_cz z 0 0) X dJ0_init_db425_15 rfl 3 rfl ?_
  refine dw_ckq (by exact ⟨Nat.le_of_ble_eq_true rfl, Nat.le_of_ble_eq_true rfl⟩) (e_callV (k := r0) (ci := 17) (Cn := "java/lang/StringBuilder") (T := TJ4) (N := 4) (c := 0) (s := 0) (As := []) (z := tw_cz z 0 0) X hA hb hD ⟨rfl, rfl⟩ ⟨eMC, eMS⟩ dJ0_init_db425_16 (fun Q h => dw_m_J5_isLatin1_aae02 hD h) dw_y_J5_isLatin1_aae02 dw_v_J5_isLatin1_aae02 _ dw_w1435 (by decide) rfl (fun h => dw_E17 h) rfl ⟨tw_le hfr rfl, tw_le hlo rfl⟩ (Nat.le_of_ble_eq_true rfl) rfl (fun r24 => ?_))
  show dw_Rf (tw_cz z 0 0) b _ Y _ [(4, .int v23), (3, .ref (b + r21)), (0, .ref (b + th)), (1, .ref (b + r0)), (2, .null)] [.int r24]
  refine e_jn (α := dw_S × Nat × Nat) (zJ := fun a25 => tw_cz z a25.2.1 a25.2.2) (YJ := fun a25 => a25.1) (pcJ := 97) (LJ := fun a25 => []) (stJ := fun a25 => []) (fun a25 => ?_) (fun j26 hj26 => ?_)
  ·
    exact e_vret (z := z) X eB dJ0_init_db425_97 hret ⟨eMC, eMS⟩ hQ rfl rfl
  refine e_if_eq (z := tw_cz z 0 0) X dJ0_init_db425_19 (tgt := 41) (by decide) ?_ ?_
  ·
    refine e_scom (z := tw_cz z 0 0) X dJ0_init_db425_41 dw_w857 ?_
    refine e_jn (α := Unit) (zJ := fun a27 => tw_cz z 0 0) (YJ := fun a27 => Y) (pcJ := 79) (LJ := fun a27 => [(4, .int v23), (3, .ref (b + r21)), (0, .ref (b + th))]) (stJ := fun a27 => []) (fun a27 => ?_) (fun j28 hj28 => ?_)
    ·
      refine e_aload_n (z := tw_cz z 0 0) X dJ0_init_db425_79 rfl 2 rfl ?_
      refine e_iconst (z := tw_cz z 0 0) X dJ0_init_db425_80 (v := (1 : Int32)) (by decide) ?_
      show dw_Rf (tw_cz z 0 0) b _ Y _ [(4, .int v23), (3, .ref (b + r21)), (0, .ref (b + th))] (.int (1 : Int32) :: .ref (b + th) :: [])
      refine e_putF (ci := 16) (T := TJ0) (f := 1) (ty := .byte) (k := th) (z := tw_cz z 0 0) X hb hnm dJ0_init_db425_81 _ dw_w1488 dw_in16 tyJ0 tyJ0_ok nmJ0 rfl (by decide) rfl rfl (by decide +kernel) (by decide) (by decide) (by decide) (fun h => dw_F16 h) (Nat.le_of_ble_eq_true rfl) (fun h => dw_p16_1 h) rfl rfl rfl (fun a ha => dw_E_pi ha) (fun Y29 => ?_)
      refine e_aload_n (z := tw_cz z 0 0) X dJ0_init_db425_84 rfl 2 rfl ?_
      refine e_aload_n (z := tw_cz z 0 0) X dJ0_init_db425_85 rfl 1 rfl ?_
      refine e_iconst (z := tw_cz z 0 0) X dJ0_init_db425_86 (v := (0 : Int32)) (by decide) ?_
      refine e_iload (z := tw_cz z 0 0) X dJ0_init_db425_87 0 rfl ?_
      refine e_iconst (z := tw_cz z 0 0) X dJ0_init_db425_89 (v := (1 : Int32)) (by decide) ?_
      refine e_ishl (z := tw_cz z 0 0) X dJ0_init_db425_90 ?_
      refine dw_ckp (by exact ⟨Nat.le_of_ble_eq_true rfl, Nat.le_of_ble_eq_true rfl⟩) (e_callS (c := 0) (s := 0) (As := [.ref (b + r21), .int (0 : Int32), .int (v23 <<< ((1 : Int32) &&& 31))]) (z := tw_cz z 0 0) X hA hb hD ⟨rfl, rfl⟩ ⟨eMC, eMS⟩ dJ0_init_db425_91 (fun Q h => dw_m_J7_copyOfRange_39247 hD h) dw_y_J7_copyOfRange_39247 dw_v_J7_copyOfRange_39247 _ dw_w1436 rfl ⟨tw_le hfr rfl, tw_le hlo rfl⟩ (Nat.le_of_ble_eq_true rfl) rfl (fun r30 => ?_))
      show dw_Rf (tw_cz z 1 32) b _ r30.2 _ [(4, .int v23), (3, .ref (b + r21)), (0, .ref (b + th))] [.ref (b + r30.1), .ref (b + th)]
      show dw_Rf (tw_cz z 1 32) b _ r30.2 _ [(4, .int v23), (3, .ref (b + r21)), (0, .ref (b + th))] (dw_v b (some r30.1) :: .ref (b + th) :: [])
      refine e_putF (ci := 16) (T := TJ0) (f := 0) (ty := .array .byte) (k := th) (z := tw_cz z 1 32) X hb hnm dJ0_init_db425_94 _ dw_w1487 dw_in16 tyJ0 tyJ0_ok nmJ0 rfl (by decide) rfl rfl (by decide +kernel) dw_narrow dw_fitsA (by decide) (fun h => dw_F16 h) (Nat.le_of_ble_eq_true rfl) (fun h => dw_p16_0 h) rfl rfl rfl (fun a ha => dw_E_pr ha) (fun Y31 => ?_)
      exact dw_Rf.sub [] rfl (hj26 (Y31, 1, 32))
    refine dw_Rf.eq (E' := if (1 : Int32) = 0 then False else _) (fun h => by rw [if_neg (by decide)]; exact h) ?_
    refine e_if_eq (z := tw_cz z 0 0) X dJ0_init_db425_44 (tgt := 79) (by decide) (fun h => h.elim) ?_
    refine e_aload_n (z := tw_cz z 0 0) X dJ0_init_db425_47 rfl 3 rfl ?_
    refine e_getf (ci := 17) (T := TJ4) (f := 2) (k := r0) (z := tw_cz z 0 0) X dJ0_init_db425_48 (Or.inl ⟨_, dw_w1291⟩) dw_in17 rfl (by decide) (by decide) (fun h => dw_E17 h) rfl ?_
    refine e_if_eq (z := tw_cz z 0 0) X dJ0_init_db425_51 (tgt := 79) (by decide) ?_ ?_
    ·
      exact dw_Rf.sub [0, 1, 2] rfl (hj28 ())
    ·
      refine e_aload_n (z := tw_cz z 0 0) X dJ0_init_db425_54 rfl 2 rfl ?_
      refine e_aload_n (z := tw_cz z 0 0) X dJ0_init_db425_55 rfl 1 rfl ?_
      refine e_iconst (z := tw_cz z 0 0) X dJ0_init_db425_56 (v := (0 : Int32)) (by decide) ?_
      refine e_iload (z := tw_cz z 0 0) X dJ0_init_db425_57 0 rfl ?_
      exact fun h => h.elim
  ·
    refine e_aload_n (z := tw_cz z 0 0) X dJ0_init_db425_22 rfl 2 rfl ?_
    refine e_iconst (z := tw_cz z 0 0) X dJ0_init_db425_23 (v := (0 : Int32)) (by decide) ?_
    show dw_Rf (tw_cz z 0 0) b _ Y _ [(4, .int v23), (3, .ref (b + r21)), (0, .ref (b + th)), (1, .ref (b + r0)), (2, .null)] (.int (0 : Int32) :: .ref (b + th) :: [])
    refine e_putF (ci := 16) (T := TJ0) (f := 1) (ty := .byte) (k := th) (z := tw_cz z 0 0) X hb hnm dJ0_init_db425_24 _ dw_w1488 dw_in16 tyJ0 tyJ0_ok nmJ0 rfl (by decide) rfl rfl (by decide +kernel) (by decide) (by decide) (by decide) (fun h => dw_F16 h) (Nat.le_of_ble_eq_true rfl) (fun h => dw_p16_1 h) rfl rfl rfl (fun a ha => dw_E_pi ha) (fun Y32 => ?_)
    refine e_aload_n (z := tw_cz z 0 0) X dJ0_init_db425_27 rfl 2 rfl ?_
    refine e_aload_n (z := tw_cz z 0 0) X dJ0_init_db425_28 rfl 1 rfl ?_
    refine e_iconst (z := tw_cz z 0 0) X dJ0_init_db425_29 (v := (0 : Int32)) (by decide) ?_
    refine e_iload (z := tw_cz z 0 0) X dJ0_init_db425_30 0 rfl ?_
    refine dw_ckp (by exact ⟨Nat.le_of_ble_eq_true rfl, Nat.le_of_ble_eq_true rfl⟩) (e_callS (c := 0) (s := 0) (As := [.ref (b + r21), .int (0 : Int32), .int v23]) (z := tw_cz z 0 0) X hA hb hD ⟨rfl, rfl⟩ ⟨eMC, eMS⟩ dJ0_init_db425_32 (fun Q h => dw_m_J7_copyOfRange_39247 hD h) dw_y_J7_copyOfRange_39247 dw_v_J7_copyOfRange_39247 _ dw_w1436 rfl ⟨tw_le hfr rfl, tw_le hlo rfl⟩ (Nat.le_of_ble_eq_true rfl) rfl (fun r33 => ?_))
    show dw_Rf (tw_cz z 1 32) b _ r33.2 _ [(4, .int v23), (3, .ref (b + r21)), (0, .ref (b + th)), (1, .ref (b + r0)), (2, .null)] [.ref (b + r33.1), .ref (b + th)]
    show dw_Rf (tw_cz z 1 32) b _ r33.2 _ [(4, .int v23), (3, .ref (b + r21)), (0, .ref (b + th)), (1, .ref (b + r0)), (2, .null)] (dw_v b (some r33.1) :: .ref (b + th) :: [])
    refine e_putF (ci := 16) (T := TJ0) (f := 0) (ty := .array .byte) (k := th) (z := tw_cz z 1 32) X hb hnm dJ0_init_db425_35 _ dw_w1487 dw_in16 tyJ0 tyJ0_ok nmJ0 rfl (by decide) rfl rfl (by decide +kernel) dw_narrow dw_fitsA (by decide) (fun h => dw_F16 h) (Nat.le_of_ble_eq_true rfl) (fun h => dw_p16_0 h) rfl rfl rfl (fun a ha => dw_E_pr ha) (fun Y34 => ?_)
    refine e_goto (z := tw_cz z 1 32) X dJ0_init_db425_38 (tgt := 97) (by decide) ?_
    exact dw_Rf.sub [] rfl (hj26 (Y34, 1, 32))
def dw_P_J0_init_81219 (th : Nat) (r0 : Nat) (Y : dw_S) (Q : dw_S → Prop) : Prop :=
dw_P_J0_init_db425 th r0 Y (fun (r21 : dw_S) =>
Q r21)
theorem dw_y_J0_init_81219 : tw_My yJ0_init_81219 cJ0_init_81219 2 none 1 := ⟨List.mem_of_getElem? dw_w1417, List.mem_of_getElem? dw_w60, by decide +kernel, by decide +kernel, by decide +kernel⟩
theorem dw_v_J0_init_81219 : Cond.instanceMethod yJ0_init_81219 ∈ lw_tbl := List.mem_of_getElem? dw_w1416
set_option maxRecDepth 100000 in
set_option maxHeartbeats 4000000 in
theorem dw_m_J0_init_81219 {l : Launch} {b : Nat} {D : tw_G} {C : Nat → ClassId} {S : Nat → Nat} (hD : D.2 = []) {th : Nat} {r0 : Nat} {Y : dw_S} {Q : dw_S → Prop}  (h : dw_P_J0_init_81219 th r0 Y Q) : dw_Met l b D C S yJ0_init_81219 cJ0_init_81219 2 none ({ frames := 4, cells := 1, slots := 32, locals := 130 } : Room) [.ref (b + th), .ref (b + r0)] Y (fun _ => none) (fun r => r) Q := by
  refine dw_metOf (dw_P_J0_init_81219 th r0 Y Q) h _ _ Q (by decide +kernel) (Nat.le_of_ble_eq_true rfl) ?_
  intro z el eB eD eC eS eR X hA hnm hret hQ
  subst el eD eC eS
  have hb : tw_zB z ≤ b := Nat.le_of_eq eB
  have hA : dw_AK (tw_zB z) (tw_zS z) (tw_zs z) := by rw [eB]; exact hA
  have hfr : (tw_zR z).frames = 4 := by rw [eR]
  have hlo : (tw_zR z).locals = 130 := by rw [eR]
  have eMC : (tw_zR z).cells = 1 := by rw [eR]
  have eMS : (tw_zR z).slots = 32 := by rw [eR]
  have X : tw_X z cJ0_init_81219 "java/lang/String" 2 := X
  show dw_Rf (tw_cz z 0 0) b _ Y 0 [(0, .ref (b + th)), (1, .ref (b + r0))] []
  unfold dw_P_J0_init_81219
  refine e_aload_n (z := tw_cz z 0 0) X dJ0_init_81219_0 rfl 0 rfl ?_
  refine e_aload_n (z := tw_cz z 0 0) X dJ0_init_81219_1 rfl 1 rfl ?_
  refine e_null (z := tw_cz z 0 0) X dJ0_init_81219_2 ?_
  refine dw_ckp (by exact ⟨Nat.le_of_ble_eq_true rfl, Nat.le_of_ble_eq_true rfl⟩) (e_callI (c := 0) (s := 0) (As := [.ref (b + r0), .null]) (z := tw_cz z 0 0) X hA hb hD ⟨rfl, rfl⟩ ⟨eMC, eMS⟩ dJ0_init_81219_3 (fun Q h => dw_m_J0_init_db425 hD h) dw_y_J0_init_db425 dw_v_J0_init_db425 rfl _ dw_w1418 rfl ⟨tw_le hfr rfl, tw_le hlo rfl⟩ (Nat.le_of_ble_eq_true rfl) rfl (fun r21 => ?_))
  show dw_Rf (tw_cz z 1 32) b _ r21 _ [(0, .ref (b + th)), (1, .ref (b + r0))] []
  exact dw_ckp (by exact ⟨Nat.le_of_ble_eq_true rfl, Nat.le_of_ble_eq_true rfl⟩) (e_vret (z := z) X eB dJ0_init_81219_6 hret ⟨eMC, eMS⟩ hQ rfl rfl)
def dw_P_J4_toString_0e30d (th : Nat) (Y : dw_S) (Q : Nat × dw_S → Prop) : Prop :=
pw_al (dw_n Y) (fun (q21 : Nat) => pw_lt (dw_nw Y q21 16 0 (fun _ => 0) (fun _ => none)) (fun (Y22 : dw_S) =>
dw_P_J0_init_81219 q21 th Y22 (fun (r23 : dw_S) =>
Q (q21, r23))))
theorem dw_y_J4_toString_0e30d : tw_My yJ4_toString_0e30d cJ4_toString_0e30d 1 (some (.object "java/lang/String")) 0 := ⟨List.mem_of_getElem? dw_w1412, List.mem_of_getElem? dw_w65, by decide +kernel, by decide +kernel, by decide +kernel⟩
theorem dw_v_J4_toString_0e30d : dw_Mv yJ4_toString_0e30d "java/lang/StringBuilder" := ⟨List.mem_of_getElem? dw_w1410, List.mem_of_getElem? dw_w1411⟩
set_option maxRecDepth 100000 in
set_option maxHeartbeats 4000000 in
theorem dw_m_J4_toString_0e30d {l : Launch} {b : Nat} {D : tw_G} {C : Nat → ClassId} {S : Nat → Nat} (hD : D.2 = []) {th : Nat} {Y : dw_S} {Q : Nat × dw_S → Prop}  (h : dw_P_J4_toString_0e30d th Y Q) : dw_Met l b D C S yJ4_toString_0e30d cJ4_toString_0e30d 1 (some (.object "java/lang/String")) ({ frames := 5, cells := 2, slots := 36, locals := 151 } : Room) [.ref (b + th)] Y (fun r => some (.ref (b + r.1))) (fun r => r.2) Q := by
  refine dw_metOf (dw_P_J4_toString_0e30d th Y Q) h _ _ Q (by decide +kernel) (Nat.le_of_ble_eq_true rfl) ?_
  intro z el eB eD eC eS eR X hA hnm hret hQ
  subst el eD eC eS
  have hb : tw_zB z ≤ b := Nat.le_of_eq eB
  have hA : dw_AK (tw_zB z) (tw_zS z) (tw_zs z) := by rw [eB]; exact hA
  have hfr : (tw_zR z).frames = 5 := by rw [eR]
  have hlo : (tw_zR z).locals = 151 := by rw [eR]
  have eMC : (tw_zR z).cells = 2 := by rw [eR]
  have eMS : (tw_zR z).slots = 36 := by rw [eR]
  have X : tw_X z cJ4_toString_0e30d "java/lang/StringBuilder" 1 := X
  show dw_Rf (tw_cz z 0 0) b _ Y 0 [(0, .ref (b + th))] []
  unfold dw_P_J4_toString_0e30d
  refine dw_ckp (by exact ⟨Nat.le_of_ble_eq_true rfl, Nat.le_of_ble_eq_true rfl⟩) (e_new (ci := 16) (T := TJ0) (N := 4) (c := 0) (s := 0) (z := tw_cz z 0 0) X ⟨rfl, rfl⟩ ⟨eMC, eMS⟩ dJ4_toString_0e30d_0 _ dw_w1413 (List.mem_of_getElem? dw_w1414) (List.mem_of_getElem? dw_w60) dw_in16 tyJ0 tyJ0_ok rfl dw_df16 (by decide) (fun a => dw_fr16) (fun q21 Y22 => ?_))
  show dw_Rf (tw_cz z 1 4) b _ Y22 _ [(0, .ref (b + th))] [.ref (b + q21)]
  refine e_dup (z := tw_cz z 1 4) X dJ4_toString_0e30d_3 rfl ?_
  refine e_aload_n (z := tw_cz z 1 4) X dJ4_toString_0e30d_4 rfl 0 rfl ?_
  refine dw_ckp (by exact ⟨Nat.le_of_ble_eq_true rfl, Nat.le_of_ble_eq_true rfl⟩) (e_callI (c := 1) (s := 4) (As := [.ref (b + th)]) (z := tw_cz z 1 4) X hA hb hD ⟨rfl, rfl⟩ ⟨eMC, eMS⟩ dJ4_toString_0e30d_5 (fun Q h => dw_m_J0_init_81219 hD h) dw_y_J0_init_81219 dw_v_J0_init_81219 rfl _ dw_w1415 rfl ⟨tw_le hfr rfl, tw_le hlo rfl⟩ (Nat.le_of_ble_eq_true rfl) rfl (fun r23 => ?_))
  show dw_Rf (tw_cz z 2 36) b _ r23 _ [(0, .ref (b + th))] [.ref (b + q21)]
  exact dw_ckp (by exact ⟨Nat.le_of_ble_eq_true rfl, Nat.le_of_ble_eq_true rfl⟩) (e_aret (z := z) X eB dJ4_toString_0e30d_8 hret (Or.inl ⟨_, rfl⟩) (Or.inr ⟨_, rfl⟩) ⟨eMC, eMS⟩ hQ rfl rfl)
def dw_P_J0_coder_7d493 (th : Nat) (Y : dw_S) (Q : Int32 → Prop) : Prop :=
tw_jn (fun (a21 : Int32) =>
pw_ck (narrow .byte (.int a21) = .int a21) (Q a21)) (fun (j22 : (Int32) → Prop) =>
pw_ck (dw_is Y th 16) (
j22 (dw_i Y th 1)))
theorem dw_y_J0_coder_7d493 : tw_My yJ0_coder_7d493 cJ0_coder_7d493 1 (some .byte) 0 := ⟨List.mem_of_getElem? dw_w856, List.mem_of_getElem? dw_w60, by decide +kernel, by decide +kernel, by decide +kernel⟩
theorem dw_v_J0_coder_7d493 : dw_Mv yJ0_coder_7d493 "java/lang/String" := ⟨List.mem_of_getElem? dw_w854, List.mem_of_getElem? dw_w855⟩
set_option maxRecDepth 100000 in
set_option maxHeartbeats 4000000 in
theorem dw_m_J0_coder_7d493 {l : Launch} {b : Nat} {D : tw_G} {C : Nat → ClassId} {S : Nat → Nat} (hD : D.2 = []) {th : Nat} {Y : dw_S} {Q : Int32 → Prop}  (h : dw_P_J0_coder_7d493 th Y Q) : dw_Met l b D C S yJ0_coder_7d493 cJ0_coder_7d493 1 (some .byte) ({ frames := 0, cells := 0, slots := 0, locals := 0 } : Room) [.ref (b + th)] Y (fun r => some (.int r)) (fun _ => Y) Q := by
  refine dw_metOf (dw_P_J0_coder_7d493 th Y Q) h _ _ Q (by decide +kernel) (Nat.le_of_ble_eq_true rfl) ?_
  intro z el eB eD eC eS eR X hA hnm hret hQ
  subst el eD eC eS
  have hb : tw_zB z ≤ b := Nat.le_of_eq eB
  have hA : dw_AK (tw_zB z) (tw_zS z) (tw_zs z) := by rw [eB]; exact hA
  have hfr : (tw_zR z).frames = 0 := by rw [eR]
  have hlo : (tw_zR z).locals = 0 := by rw [eR]
  have eMC : (tw_zR z).cells = 0 := by rw [eR]
  have eMS : (tw_zR z).slots = 0 := by rw [eR]
  have X : tw_X z cJ0_coder_7d493 "java/lang/String" 1 := X
  show dw_Rf (tw_cz z 0 0) b _ Y 0 [(0, .ref (b + th))] []
  unfold dw_P_J0_coder_7d493
  refine e_scom (z := tw_cz z 0 0) X dJ0_coder_7d493_0 dw_w857 ?_
  refine e_jn (α := Int32) (zJ := fun a21 => tw_cz z 0 0) (YJ := fun a21 => Y) (pcJ := 14) (LJ := fun a21 => []) (stJ := fun a21 => [.int a21]) (fun a21 => ?_) (fun j22 hj22 => ?_)
  ·
    exact dw_ckr (by exact ⟨Nat.le_of_ble_eq_true rfl, Nat.le_of_ble_eq_true rfl⟩) (e_nret (z := z) X eB dJ0_coder_7d493_14 hret ⟨eMC, eMS⟩ hQ rfl rfl)
  refine dw_Rf.eq (E' := if (1 : Int32) = 0 then False else _) (fun h => by rw [if_neg (by decide)]; exact h) ?_
  refine e_if_eq (z := tw_cz z 0 0) X dJ0_coder_7d493_3 (tgt := 13) (by decide) (fun h => h.elim) ?_
  refine e_aload_n (z := tw_cz z 0 0) X dJ0_coder_7d493_6 rfl 0 rfl ?_
  refine e_getf (ci := 16) (T := TJ0) (f := 1) (k := th) (z := tw_cz z 0 0) X dJ0_coder_7d493_7 (Or.inl ⟨_, dw_w1488⟩) dw_in16 rfl (by decide) (by decide) (fun h => dw_E16 h) rfl ?_
  refine e_goto (z := tw_cz z 0 0) X dJ0_coder_7d493_10 (tgt := 14) (by decide) ?_
  exact dw_Rf.sub [] rfl (hj22 (dw_i Y th 1))
def dw_P_J0_length_8abf5 (th : Nat) (Y : dw_S) (Q : Int32 → Prop) : Prop :=
pw_ck (dw_is Y th 16) (
pw_nn (dw_r Y th 0) (fun (r21 : Nat) =>
pw_ck (dw_is Y r21 22) (
pw_ck (dw_is Y th 16) (
dw_P_J0_coder_7d493 th Y (fun (r22 : Int32) =>
Q ((Int32.ofNat (dw_l Y r21)) >>> (r22 &&& 31)))))))
theorem dw_y_J0_length_8abf5 : tw_My yJ0_length_8abf5 cJ0_length_8abf5 1 (some .int) 0 := ⟨List.mem_of_getElem? dw_w852, List.mem_of_getElem? dw_w60, by decide +kernel, by decide +kernel, by decide +kernel⟩
theorem dw_v_J0_length_8abf5 : dw_Mv yJ0_length_8abf5 "java/lang/String" := ⟨List.mem_of_getElem? dw_w850, List.mem_of_getElem? dw_w851⟩
set_option maxRecDepth 100000 in
set_option maxHeartbeats 4000000 in
theorem dw_m_J0_length_8abf5 {l : Launch} {b : Nat} {D : tw_G} {C : Nat → ClassId} {S : Nat → Nat} (hD : D.2 = []) {th : Nat} {Y : dw_S} {Q : Int32 → Prop}  (h : dw_P_J0_length_8abf5 th Y Q) : dw_Met l b D C S yJ0_length_8abf5 cJ0_length_8abf5 1 (some .int) ({ frames := 1, cells := 0, slots := 0, locals := 20 } : Room) [.ref (b + th)] Y (fun r => some (.int r)) (fun _ => Y) Q := by
  refine dw_metOf (dw_P_J0_length_8abf5 th Y Q) h _ _ Q (by decide +kernel) (Nat.le_of_ble_eq_true rfl) ?_
  intro z el eB eD eC eS eR X hA hnm hret hQ
  subst el eD eC eS
  have hb : tw_zB z ≤ b := Nat.le_of_eq eB
  have hA : dw_AK (tw_zB z) (tw_zS z) (tw_zs z) := by rw [eB]; exact hA
  have hfr : (tw_zR z).frames = 1 := by rw [eR]
  have hlo : (tw_zR z).locals = 20 := by rw [eR]
  have eMC : (tw_zR z).cells = 0 := by rw [eR]
  have eMS : (tw_zR z).slots = 0 := by rw [eR]
  have X : tw_X z cJ0_length_8abf5 "java/lang/String" 1 := X
  show dw_Rf (tw_cz z 0 0) b _ Y 0 [(0, .ref (b + th))] []
  unfold dw_P_J0_length_8abf5
  refine e_aload_n (z := tw_cz z 0 0) X dJ0_length_8abf5_0 rfl 0 rfl ?_
  refine e_getf (ci := 16) (T := TJ0) (f := 0) (k := th) (z := tw_cz z 0 0) X dJ0_length_8abf5_1 (Or.inl ⟨_, dw_w1487⟩) dw_in16 rfl (by decide) (by decide) (fun h => dw_E16 h) rfl ?_
  refine e_nn (r := (dw_r Y th 0)) (LL := fun _ => [(0, .ref (b + th))]) (SS := fun q => dw_v b q :: []) (fun r21 => ?_)
  show dw_Rf (tw_cz z 0 0) b _ Y _ [(0, .ref (b + th))] [.ref (b + r21)]
  refine e_alen (k := r21) (kd := 22) (a := 5) (ty := .byte) (x := (0, .inl (dw_i Y r21))) (z := tw_cz z 0 0) X dJ0_length_8abf5_4 (by decide) (fun h => dw_E22 h) rfl ?_
  refine e_aload_n (z := tw_cz z 0 0) X dJ0_length_8abf5_5 rfl 0 rfl ?_
  refine dw_ckq (by exact ⟨Nat.le_of_ble_eq_true rfl, Nat.le_of_ble_eq_true rfl⟩) (e_callV (k := th) (ci := 16) (Cn := "java/lang/String") (T := TJ0) (N := 4) (c := 0) (s := 0) (As := []) (z := tw_cz z 0 0) X hA hb hD ⟨rfl, rfl⟩ ⟨eMC, eMS⟩ dJ0_length_8abf5_6 (fun Q h => dw_m_J0_coder_7d493 hD h) dw_y_J0_coder_7d493 dw_v_J0_coder_7d493 _ dw_w853 (by decide) rfl (fun h => dw_E16 h) rfl ⟨tw_le hfr rfl, tw_le hlo rfl⟩ (Nat.le_of_ble_eq_true rfl) rfl (fun r22 => ?_))
  show dw_Rf (tw_cz z 0 0) b _ Y _ [(0, .ref (b + th))] [.int r22, .int (Int32.ofNat (dw_l Y r21))]
  refine e_ishr (z := tw_cz z 0 0) X dJ0_length_8abf5_9 ?_
  exact dw_ckp (by exact ⟨Nat.le_of_ble_eq_true rfl, Nat.le_of_ble_eq_true rfl⟩) (e_iret (z := z) X eB dJ0_length_8abf5_10 hret ⟨eMC, eMS⟩ hQ rfl rfl)
def dw_P_J0_isLatin1_aae02 (th : Nat) (Y : dw_S) (Q : Int32 → Prop) : Prop :=
tw_jn (fun (a21 : Int32) =>
pw_ck (tw_01 a21 = true) (Q a21)) (fun (j22 : (Int32) → Prop) =>
tw_jn (fun (a23 : Unit) =>
j22 (0 : Int32)) (fun (j24 : (Unit) → Prop) =>
pw_ck (dw_is Y th 16) (
if ¬ (dw_i Y th 1) = 0 then (j24 ())
else (j22 (1 : Int32)))))
theorem dw_y_J0_isLatin1_aae02 : tw_My yJ0_isLatin1_aae02 cJ0_isLatin1_aae02 1 (some .boolean) 0 := ⟨List.mem_of_getElem? dw_w866, List.mem_of_getElem? dw_w60, by decide +kernel, by decide +kernel, by decide +kernel⟩
theorem dw_v_J0_isLatin1_aae02 : dw_Mv yJ0_isLatin1_aae02 "java/lang/String" := ⟨List.mem_of_getElem? dw_w864, List.mem_of_getElem? dw_w865⟩
set_option maxRecDepth 100000 in
set_option maxHeartbeats 4000000 in
theorem dw_m_J0_isLatin1_aae02 {l : Launch} {b : Nat} {D : tw_G} {C : Nat → ClassId} {S : Nat → Nat} (hD : D.2 = []) {th : Nat} {Y : dw_S} {Q : Int32 → Prop}  (h : dw_P_J0_isLatin1_aae02 th Y Q) : dw_Met l b D C S yJ0_isLatin1_aae02 cJ0_isLatin1_aae02 1 (some .boolean) ({ frames := 0, cells := 0, slots := 0, locals := 0 } : Room) [.ref (b + th)] Y (fun r => some (.int r)) (fun _ => Y) Q := by
  refine dw_metOf (dw_P_J0_isLatin1_aae02 th Y Q) h _ _ Q (by decide +kernel) (Nat.le_of_ble_eq_true rfl) ?_
  intro z el eB eD eC eS eR X hA hnm hret hQ
  subst el eD eC eS
  have hb : tw_zB z ≤ b := Nat.le_of_eq eB
  have hA : dw_AK (tw_zB z) (tw_zS z) (tw_zs z) := by rw [eB]; exact hA
  have hfr : (tw_zR z).frames = 0 := by rw [eR]
  have hlo : (tw_zR z).locals = 0 := by rw [eR]
  have eMC : (tw_zR z).cells = 0 := by rw [eR]
  have eMS : (tw_zR z).slots = 0 := by rw [eR]
  have X : tw_X z cJ0_isLatin1_aae02 "java/lang/String" 1 := X
  show dw_Rf (tw_cz z 0 0) b _ Y 0 [(0, .ref (b + th))] []
  unfold dw_P_J0_isLatin1_aae02
  refine e_scom (z := tw_cz z 0 0) X dJ0_isLatin1_aae02_0 dw_w857 ?_
  refine e_jn (α := Int32) (zJ := fun a21 => tw_cz z 0 0) (YJ := fun a21 => Y) (pcJ := 18) (LJ := fun a21 => []) (stJ := fun a21 => [.int a21]) (fun a21 => ?_) (fun j22 hj22 => ?_)
  ·
    exact dw_ckr (by exact ⟨Nat.le_of_ble_eq_true rfl, Nat.le_of_ble_eq_true rfl⟩) (e_zret (z := z) X eB dJ0_isLatin1_aae02_18 hret ⟨eMC, eMS⟩ hQ rfl rfl)
  refine e_jn (α := Unit) (zJ := fun a23 => tw_cz z 0 0) (YJ := fun a23 => Y) (pcJ := 17) (LJ := fun a23 => []) (stJ := fun a23 => []) (fun a23 => ?_) (fun j24 hj24 => ?_)
  ·
    refine e_iconst (z := tw_cz z 0 0) X dJ0_isLatin1_aae02_17 (v := (0 : Int32)) (by decide) ?_
    exact hj22 (0 : Int32)
  refine dw_Rf.eq (E' := if (1 : Int32) = 0 then False else _) (fun h => by rw [if_neg (by decide)]; exact h) ?_
  refine e_if_eq (z := tw_cz z 0 0) X dJ0_isLatin1_aae02_3 (tgt := 17) (by decide) (fun h => h.elim) ?_
  refine e_aload_n (z := tw_cz z 0 0) X dJ0_isLatin1_aae02_6 rfl 0 rfl ?_
  refine e_getf (ci := 16) (T := TJ0) (f := 1) (k := th) (z := tw_cz z 0 0) X dJ0_isLatin1_aae02_7 (Or.inl ⟨_, dw_w1488⟩) dw_in16 rfl (by decide) (by decide) (fun h => dw_E16 h) rfl ?_
  refine e_if_ne (z := tw_cz z 0 0) X dJ0_isLatin1_aae02_10 (tgt := 17) (by decide) ?_ ?_
  ·
    exact dw_Rf.sub [] rfl (hj24 ())
  ·
    refine e_iconst (z := tw_cz z 0 0) X dJ0_isLatin1_aae02_13 (v := (1 : Int32)) (by decide) ?_
    refine e_goto (z := tw_cz z 0 0) X dJ0_isLatin1_aae02_14 (tgt := 18) (by decide) ?_
    exact dw_Rf.sub [] rfl (hj22 (1 : Int32))
def dw_P_J1_charAt_3b067 (r0 : Nat) (x1 : Int32) (Y : dw_S) (Q : Int32 → Prop) : Prop :=
pw_ck (dw_is Y r0 22) (
pw_bd (if ¬ x1 < 0 ∧ x1 < (Int32.ofNat (dw_l Y r0)) then some () else none : Option Unit) (fun _ =>
pw_ck (dw_is (dw_cs Y (dw_s Y)) r0 22 ∧ tw_ok x1 (dw_l (dw_cs Y (dw_s Y)) r0) = true) (
pw_ck (narrow .char (.int ((Int32.toUInt32 ((dw_i (dw_cs Y (dw_s Y)) r0 (Int32.toNatClampNeg x1)) &&& (255 : Int32)) % 65536).toInt32)) = .int ((Int32.toUInt32 ((dw_i (dw_cs Y (dw_s Y)) r0 (Int32.toNatClampNeg x1)) &&& (255 : Int32)) % 65536).toInt32)) (Q ((Int32.toUInt32 ((dw_i (dw_cs Y (dw_s Y)) r0 (Int32.toNatClampNeg x1)) &&& (255 : Int32)) % 65536).toInt32)))))
theorem dw_y_J1_charAt_3b067 : tw_My yJ1_charAt_3b067 cJ1_charAt_3b067 2 (some .char) 2 := ⟨List.mem_of_getElem? dw_w869, List.mem_of_getElem? dw_w61, by decide +kernel, by decide +kernel, by decide +kernel⟩
theorem dw_v_J1_charAt_3b067 : tw_Ms yJ1_charAt_3b067 := List.mem_of_getElem? dw_w868
set_option maxRecDepth 100000 in
set_option maxHeartbeats 4000000 in
theorem dw_m_J1_charAt_3b067 {l : Launch} {b : Nat} {D : tw_G} {C : Nat → ClassId} {S : Nat → Nat} (hD : D.2 = []) {r0 : Nat} {x1 : Int32} {Y : dw_S} {Q : Int32 → Prop}  (h : dw_P_J1_charAt_3b067 r0 x1 Y Q) : dw_Met l b D C S yJ1_charAt_3b067 cJ1_charAt_3b067 2 (some .char) ({ frames := 2, cells := 0, slots := 0, locals := 61 } : Room) [.ref (b + r0), .int x1] Y (fun r => some (.int r)) (fun _ => Y) Q := by
  refine dw_metOf (dw_P_J1_charAt_3b067 r0 x1 Y Q) h _ _ Q (by decide +kernel) (Nat.le_of_ble_eq_true rfl) ?_
  intro z el eB eD eC eS eR X hA hnm hret hQ
  subst el eD eC eS
  have hb : tw_zB z ≤ b := Nat.le_of_eq eB
  have hA : dw_AK (tw_zB z) (tw_zS z) (tw_zs z) := by rw [eB]; exact hA
  have hfr : (tw_zR z).frames = 2 := by rw [eR]
  have hlo : (tw_zR z).locals = 61 := by rw [eR]
  have eMC : (tw_zR z).cells = 0 := by rw [eR]
  have eMS : (tw_zR z).slots = 0 := by rw [eR]
  have X : tw_X z cJ1_charAt_3b067 "java/lang/StringLatin1" 2 := X
  show dw_Rf (tw_cz z 0 0) b _ Y 0 [(0, .ref (b + r0)), (1, .int x1)] []
  unfold dw_P_J1_charAt_3b067
  refine e_iload_n (z := tw_cz z 0 0) X dJ1_charAt_3b067_0 rfl 1 rfl ?_
  refine e_aload_n (z := tw_cz z 0 0) X dJ1_charAt_3b067_1 rfl 0 rfl ?_
  refine e_alen (k := r0) (kd := 22) (a := 5) (ty := .byte) (x := (0, .inl (dw_i Y r0))) (z := tw_cz z 0 0) X dJ1_charAt_3b067_2 (by decide) (fun h => dw_E22 h) rfl ?_
  refine dw_ckp (by exact ⟨Nat.le_of_ble_eq_true rfl, Nat.le_of_ble_eq_true rfl⟩) (e_clS (e := (if ¬ x1 < 0 ∧ x1 < (Int32.ofNat (dw_l Y r0)) then some () else none : Option Unit)) (rv := fun _ => none) (σ' := fun _ => dw_s Y) (As := [.int x1, .int (Int32.ofNat (dw_l Y r0))]) (z := tw_cz z 0 0) X hb ⟨rfl, rfl⟩ ⟨eMC, eMS⟩ dJ1_charAt_3b067_3 (fun r h => by by_cases hc : ¬ x1 < 0 ∧ x1 < (Int32.ofNat (dw_l Y r0)); exact tw_m_J0_checkIndex_df160 hc.1 hc.2; rw [if_neg hc] at h; cases h) tw_y_J0_checkIndex_df160 tw_v_J0_checkIndex_df160 _ dw_w870 rfl ⟨rfl, rfl, tw_le hfr rfl, tw_le hlo rfl⟩ (Nat.le_of_ble_eq_true rfl) rfl (fun _ => ?_))
  show dw_Rf (tw_cz z 0 0) b _ (dw_cs Y (dw_s Y)) _ [(0, .ref (b + r0)), (1, .int x1)] []
  refine e_aload_n (z := tw_cz z 0 0) X dJ1_charAt_3b067_6 rfl 0 rfl ?_
  refine e_iload_n (z := tw_cz z 0 0) X dJ1_charAt_3b067_7 rfl 1 rfl ?_
  refine e_bald (k := r0) (z := tw_cz z 0 0) X dJ1_charAt_3b067_8 ?_
  refine e_sipush (z := tw_cz z 0 0) X dJ1_charAt_3b067_9 (v := (255 : Int32)) (by decide) ?_
  refine e_iand (z := tw_cz z 0 0) X dJ1_charAt_3b067_12 ?_
  refine e_i2c (z := tw_cz z 0 0) X dJ1_charAt_3b067_13 rfl ?_
  exact dw_ckr (by exact ⟨Nat.le_of_ble_eq_true rfl, Nat.le_of_ble_eq_true rfl⟩) (e_nret (z := z) X eB dJ1_charAt_3b067_14 hret ⟨eMC, eMS⟩ hQ rfl rfl)
def dw_P_J0_charAt_5068e (th : Nat) (x0 : Int32) (Y : dw_S) (Q : Int32 → Prop) : Prop :=
pw_ck (dw_is Y th 16) (
dw_P_J0_isLatin1_aae02 th Y (fun (r21 : Int32) =>
if r21 = 0 then (pw_ck (dw_is Y th 16) (
pw_nn (dw_r Y th 0) (fun (r22 : Nat) =>
False)))
else (pw_ck (dw_is Y th 16) (
pw_nn (dw_r Y th 0) (fun (r23 : Nat) =>
dw_P_J1_charAt_3b067 r23 x0 Y (fun (r24 : Int32) =>
pw_ck (narrow .char (.int r24) = .int r24) (Q r24)))))))
theorem dw_y_J0_charAt_5068e : tw_My yJ0_charAt_5068e cJ0_charAt_5068e 2 (some .char) 1 := ⟨List.mem_of_getElem? dw_w862, List.mem_of_getElem? dw_w60, by decide +kernel, by decide +kernel, by decide +kernel⟩
theorem dw_v_J0_charAt_5068e : dw_Mv yJ0_charAt_5068e "java/lang/String" := ⟨List.mem_of_getElem? dw_w860, List.mem_of_getElem? dw_w861⟩
set_option maxRecDepth 100000 in
set_option maxHeartbeats 4000000 in
theorem dw_m_J0_charAt_5068e {l : Launch} {b : Nat} {D : tw_G} {C : Nat → ClassId} {S : Nat → Nat} (hD : D.2 = []) {th : Nat} {x0 : Int32} {Y : dw_S} {Q : Int32 → Prop}  (h : dw_P_J0_charAt_5068e th x0 Y Q) : dw_Met l b D C S yJ0_charAt_5068e cJ0_charAt_5068e 2 (some .char) ({ frames := 3, cells := 0, slots := 0, locals := 82 } : Room) [.ref (b + th), .int x0] Y (fun r => some (.int r)) (fun _ => Y) Q := by
  refine dw_metOf (dw_P_J0_charAt_5068e th x0 Y Q) h _ _ Q (by decide +kernel) (Nat.le_of_ble_eq_true rfl) ?_
  intro z el eB eD eC eS eR X hA hnm hret hQ
  subst el eD eC eS
  have hb : tw_zB z ≤ b := Nat.le_of_eq eB
  have hA : dw_AK (tw_zB z) (tw_zS z) (tw_zs z) := by rw [eB]; exact hA
  have hfr : (tw_zR z).frames = 3 := by rw [eR]
  have hlo : (tw_zR z).locals = 82 := by rw [eR]
  have eMC : (tw_zR z).cells = 0 := by rw [eR]
  have eMS : (tw_zR z).slots = 0 := by rw [eR]
  have X : tw_X z cJ0_charAt_5068e "java/lang/String" 2 := X
  show dw_Rf (tw_cz z 0 0) b _ Y 0 [(0, .ref (b + th)), (1, .int x0)] []
  unfold dw_P_J0_charAt_5068e
  refine e_aload_n (z := tw_cz z 0 0) X dJ0_charAt_5068e_0 rfl 0 rfl ?_
  refine dw_ckq (by exact ⟨Nat.le_of_ble_eq_true rfl, Nat.le_of_ble_eq_true rfl⟩) (e_callV (k := th) (ci := 16) (Cn := "java/lang/String") (T := TJ0) (N := 4) (c := 0) (s := 0) (As := []) (z := tw_cz z 0 0) X hA hb hD ⟨rfl, rfl⟩ ⟨eMC, eMS⟩ dJ0_charAt_5068e_1 (fun Q h => dw_m_J0_isLatin1_aae02 hD h) dw_y_J0_isLatin1_aae02 dw_v_J0_isLatin1_aae02 _ dw_w863 (by decide) rfl (fun h => dw_E16 h) rfl ⟨tw_le hfr rfl, tw_le hlo rfl⟩ (Nat.le_of_ble_eq_true rfl) rfl (fun r21 => ?_))
  show dw_Rf (tw_cz z 0 0) b _ Y _ [(0, .ref (b + th)), (1, .int x0)] [.int r21]
  refine e_if_eq (z := tw_cz z 0 0) X dJ0_charAt_5068e_4 (tgt := 16) (by decide) ?_ ?_
  ·
    refine e_aload_n (z := tw_cz z 0 0) X dJ0_charAt_5068e_16 rfl 0 rfl ?_
    refine e_getf (ci := 16) (T := TJ0) (f := 0) (k := th) (z := tw_cz z 0 0) X dJ0_charAt_5068e_17 (Or.inl ⟨_, dw_w1487⟩) dw_in16 rfl (by decide) (by decide) (fun h => dw_E16 h) rfl ?_
    refine e_nn (r := (dw_r Y th 0)) (LL := fun _ => [(0, .ref (b + th)), (1, .int x0)]) (SS := fun q => dw_v b q :: []) (fun r22 => ?_)
    show dw_Rf (tw_cz z 0 0) b _ Y _ [(0, .ref (b + th)), (1, .int x0)] [.ref (b + r22)]
    refine e_iload_n (z := tw_cz z 0 0) X dJ0_charAt_5068e_20 rfl 1 rfl ?_
    exact fun h => h.elim
  ·
    refine e_aload_n (z := tw_cz z 0 0) X dJ0_charAt_5068e_7 rfl 0 rfl ?_
    refine e_getf (ci := 16) (T := TJ0) (f := 0) (k := th) (z := tw_cz z 0 0) X dJ0_charAt_5068e_8 (Or.inl ⟨_, dw_w1487⟩) dw_in16 rfl (by decide) (by decide) (fun h => dw_E16 h) rfl ?_
    refine e_nn (r := (dw_r Y th 0)) (LL := fun _ => [(0, .ref (b + th)), (1, .int x0)]) (SS := fun q => dw_v b q :: []) (fun r23 => ?_)
    show dw_Rf (tw_cz z 0 0) b _ Y _ [(0, .ref (b + th)), (1, .int x0)] [.ref (b + r23)]
    refine e_iload_n (z := tw_cz z 0 0) X dJ0_charAt_5068e_11 rfl 1 rfl ?_
    refine dw_ckp (by exact ⟨Nat.le_of_ble_eq_true rfl, Nat.le_of_ble_eq_true rfl⟩) (e_callS (c := 0) (s := 0) (As := [.ref (b + r23), .int x0]) (z := tw_cz z 0 0) X hA hb hD ⟨rfl, rfl⟩ ⟨eMC, eMS⟩ dJ0_charAt_5068e_12 (fun Q h => dw_m_J1_charAt_3b067 hD h) dw_y_J1_charAt_3b067 dw_v_J1_charAt_3b067 _ dw_w867 rfl ⟨tw_le hfr rfl, tw_le hlo rfl⟩ (Nat.le_of_ble_eq_true rfl) rfl (fun r24 => ?_))
    show dw_Rf (tw_cz z 0 0) b _ Y _ [(0, .ref (b + th)), (1, .int x0)] [.int r24]
    exact dw_ckr (by exact ⟨Nat.le_of_ble_eq_true rfl, Nat.le_of_ble_eq_true rfl⟩) (e_nret (z := z) X eB dJ0_charAt_5068e_15 hret ⟨eMC, eMS⟩ hQ rfl rfl)
def dw_P_L_writed (n : Nat) (r1 : Nat) (r2 : Nat) (Y : dw_S) (Q : dw_S → Prop) : Prop :=
pw_lt (0 : Int32) (fun (v21 : Int32) =>
pw_lp (fun (k23 : (Int32 × dw_S) → Prop) (a22 : Int32 × dw_S) =>
pw_ck (dw_is a22.2 r2 16) (
dw_P_J0_length_8abf5 r2 a22.2 (fun (r24 : Int32) =>
if r24 ≤ a22.1 then (Q a22.2)
else (pw_ck (dw_is a22.2 r2 16) (
dw_P_J0_charAt_5068e r2 a22.1 a22.2 (fun (r25 : Int32) =>
dw_P_L_put n r1 r25 a22.2 (fun (r26 : dw_S) =>
pw_lt (a22.1 + (1 : Int32)) (fun (v27 : Int32) =>
k23 (v27, r26))))))))) n (v21, Y))
set_option maxRecDepth 100000 in
set_option maxHeartbeats 4000000 in
theorem dw_m_L_writed {l : Launch} {b : Nat} {D : tw_G} {C : Nat → ClassId} {S : Nat → Nat} (hD : D.2 = []) {n : Nat} {r1 : Nat} {r2 : Nat} {Y : dw_S} {Q : dw_S → Prop}  (h : dw_P_L_writed n r1 r2 Y Q) : dw_Met l b D C S yL_write cL_write 4 none ({ frames := 5, cells := 0, slots := 0, locals := 113 } : Room) [.ref (b + 0), .ref (b + r1), .ref (b + r2)] Y (fun _ => none) (fun r => r) Q := by
  refine dw_metOf (dw_P_L_writed n r1 r2 Y Q) h _ _ Q (by decide +kernel) (Nat.le_of_ble_eq_true rfl) ?_
  intro z el eB eD eC eS eR X hA hnm hret hQ
  subst el eD eC eS
  have hb : tw_zB z ≤ b := Nat.le_of_eq eB
  have hA : dw_AK (tw_zB z) (tw_zS z) (tw_zs z) := by rw [eB]; exact hA
  have hfr : (tw_zR z).frames = 5 := by rw [eR]
  have hlo : (tw_zR z).locals = 113 := by rw [eR]
  have eMC : (tw_zR z).cells = 0 := by rw [eR]
  have eMS : (tw_zR z).slots = 0 := by rw [eR]
  have X : tw_X z cL_write "TreasureWalkLaw" 4 := X
  show dw_Rf (tw_cz z 0 0) b _ Y 0 [(0, .ref (b + 0)), (1, .ref (b + r1)), (2, .ref (b + r2))] []
  unfold dw_P_L_writed
  refine e_iconst (z := tw_cz z 0 0) X dL_write_0 (v := (0 : Int32)) (by decide) ?_
  refine e_istore_n (z := tw_cz z 0 0) X dL_write_1 rfl (by decide) (LL := fun v21 => [(3, .int v21), (0, .ref (b + 0)), (1, .ref (b + r1)), (2, .ref (b + r2))]) (fun _ => rfl) (fun v21 => ?_)
  refine e_lp (α := Int32 × dw_S) (zJ := fun a22 => tw_cz z 0 0) (YJ := fun a22 => a22.2) (pcJ := 2) (LJ := fun a22 => [(3, .int a22.1), (0, .ref (b + 0)), (1, .ref (b + r1)), (2, .ref (b + r2))]) (stJ := fun a22 => []) (fun k23 hk23 a22 => ?_) n (v21, Y)
  refine e_iload_n (z := tw_cz z 0 0) X dL_write_2 rfl 0 rfl ?_
  refine e_aload_n (z := tw_cz z 0 0) X dL_write_3 rfl 3 rfl ?_
  refine dw_ckq (by exact ⟨Nat.le_of_ble_eq_true rfl, Nat.le_of_ble_eq_true rfl⟩) (e_callV (k := r2) (ci := 16) (Cn := "java/lang/String") (T := TJ0) (N := 4) (c := 0) (s := 0) (As := []) (z := tw_cz z 0 0) X hA hb hD ⟨rfl, rfl⟩ ⟨eMC, eMS⟩ dL_write_4 (fun Q h => dw_m_J0_length_8abf5 hD h) dw_y_J0_length_8abf5 dw_v_J0_length_8abf5 _ dw_w1245 (by decide) rfl (fun h => dw_E16 h) rfl ⟨tw_le hfr rfl, tw_le hlo rfl⟩ (Nat.le_of_ble_eq_true rfl) rfl (fun r24 => ?_))
  show dw_Rf (tw_cz z 0 0) b _ a22.2 _ [(3, .int a22.1), (0, .ref (b + 0)), (1, .ref (b + r1)), (2, .ref (b + r2))] [.int r24, .int a22.1]
  refine e_icmp_ge (z := tw_cz z 0 0) X dL_write_7 (tgt := 26) (by decide) ?_ ?_
  ·
    exact dw_ckp (by exact ⟨Nat.le_of_ble_eq_true rfl, Nat.le_of_ble_eq_true rfl⟩) (e_vret (z := z) X eB dL_write_26 hret ⟨eMC, eMS⟩ hQ rfl rfl)
  ·
    refine e_aload_n (z := tw_cz z 0 0) X dL_write_10 rfl 1 rfl ?_
    refine e_aload_n (z := tw_cz z 0 0) X dL_write_11 rfl 2 rfl ?_
    refine e_aload_n (z := tw_cz z 0 0) X dL_write_12 rfl 3 rfl ?_
    refine e_iload_n (z := tw_cz z 0 0) X dL_write_13 rfl 0 rfl ?_
    refine dw_ckq (by exact ⟨Nat.le_of_ble_eq_true rfl, Nat.le_of_ble_eq_true rfl⟩) (e_callV (k := r2) (ci := 16) (Cn := "java/lang/String") (T := TJ0) (N := 4) (c := 0) (s := 0) (As := [.int a22.1]) (z := tw_cz z 0 0) X hA hb hD ⟨rfl, rfl⟩ ⟨eMC, eMS⟩ dL_write_14 (fun Q h => dw_m_J0_charAt_5068e hD h) dw_y_J0_charAt_5068e dw_v_J0_charAt_5068e _ dw_w1246 (by decide) rfl (fun h => dw_E16 h) rfl ⟨tw_le hfr rfl, tw_le hlo rfl⟩ (Nat.le_of_ble_eq_true rfl) rfl (fun r25 => ?_))
    show dw_Rf (tw_cz z 0 0) b _ a22.2 _ [(3, .int a22.1), (0, .ref (b + 0)), (1, .ref (b + r1)), (2, .ref (b + r2))] [.int r25, .ref (b + r1), .ref (b + 0)]
    refine dw_ckp (by exact ⟨Nat.le_of_ble_eq_true rfl, Nat.le_of_ble_eq_true rfl⟩) (e_callS (c := 0) (s := 0) (As := [.ref (b + 0), .ref (b + r1), .int r25]) (z := tw_cz z 0 0) X hA hb hD ⟨rfl, rfl⟩ ⟨eMC, eMS⟩ dL_write_17 (fun Q h => dw_m_L_put hD h) dw_y_L_put dw_v_L_put _ dw_w1247 rfl ⟨tw_le hfr rfl, tw_le hlo rfl⟩ (Nat.le_of_ble_eq_true rfl) rfl (fun r26 => ?_))
    show dw_Rf (tw_cz z 0 0) b _ r26 _ [(3, .int a22.1), (0, .ref (b + 0)), (1, .ref (b + r1)), (2, .ref (b + r2))] []
    refine e_iinc (z := tw_cz z 0 0) X dL_write_20 0 rfl (v := (1 : Int32)) (by decide) (by decide) (LL := fun v27 => [(3, .int v27), (0, .ref (b + 0)), (1, .ref (b + r1)), (2, .ref (b + r2))]) (fun _ => rfl) (fun v27 => ?_)
    refine e_goto (z := tw_cz z 0 0) X dL_write_23 (tgt := 2) (by decide) ?_
    exact hk23 (v27, r26)
