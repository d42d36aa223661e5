theorem tw_u35 : lw_tbl[35]? = some ((Jvm.Cond.initialized "TreasureWalkLaw")) := by decide +kernel
theorem tw_u55 : lw_tbl[55]? = some ((Jvm.Cond.initialized "java/lang/Throwable")) := by decide +kernel
theorem tw_u60 : lw_tbl[60]? = some ((Jvm.Cond.initialized "java/lang/String")) := by decide +kernel
theorem tw_u62 : lw_tbl[62]? = some ((Jvm.Cond.initialized "jdk/internal/util/Preconditions")) := by decide +kernel
theorem tw_u71 : lw_tbl[71]? = some ((Jvm.Cond.instantiable "TreasureWalk" (7 : Nat))) := by decide +kernel
theorem tw_u94 : lw_tbl[94]? = some ((Jvm.Cond.arrayClass Jvm.ClassFile.FieldType.int)) := by decide +kernel
theorem tw_u280 : lw_tbl[280]? = some ((Jvm.Cond.arrayOver (Jvm.ClassFile.FieldType.object "TreasureWalk$Cells"))) := by decide +kernel
theorem tw_u345 : lw_tbl[345]? = some ((Jvm.Cond.arrayOver (Jvm.ClassFile.FieldType.object "TreasureWalk$Data"))) := by decide +kernel
theorem tw_u579 : lw_tbl[579]? = some ((Jvm.Cond.laysStatic "TreasureWalk" "OFFSETS" "[I")) := by decide +kernel
theorem tw_u581 : lw_tbl[581]? = some ((Jvm.Cond.instantiable "TreasureWalkLaw$Island" (13 : Nat))) := by decide +kernel
theorem tw_u587 : lw_tbl[587]? = some ((Jvm.Cond.arrayOver (Jvm.ClassFile.FieldType.array Jvm.ClassFile.FieldType.int))) := by decide +kernel
theorem tw_u589 : lw_tbl[589]? = some ((Jvm.Cond.arrayOver (Jvm.ClassFile.FieldType.object "TreasureWalkLaw$Clue"))) := by decide +kernel
theorem tw_u641 : lw_tbl[641]? = some ((Jvm.Cond.arrayClass Jvm.ClassFile.FieldType.boolean)) := by decide +kernel
theorem tw_u653 : lw_tbl[653]? = some ((Jvm.Cond.castable "[Z" "java/lang/Cloneable")) := by decide +kernel
theorem tw_u658 : lw_tbl[658]? = some ((Jvm.Cond.castable "[I" "java/lang/Cloneable")) := by decide +kernel
theorem tw_u659 : lw_tbl[659]? = some ((Jvm.Cond.instantiable "TreasureWalkLaw$Clue" (3 : Nat))) := by decide +kernel
theorem tw_u665 : lw_tbl[665]? = some ((Jvm.Cond.arrayOver (Jvm.ClassFile.FieldType.object "TreasureWalkLaw$Leg"))) := by decide +kernel
theorem tw_u734 : lw_tbl[734]? = some ((Jvm.Cond.instantiable "TreasureWalkLaw$Random" (1 : Nat))) := by decide +kernel
theorem tw_u783 : lw_tbl[783]? = some ((Jvm.Cond.laysStatic "java/lang/Throwable" "UNASSIGNED_STACK" "[Ljava/lang/StackTraceElement;")) := by decide +kernel
theorem tw_u785 : lw_tbl[785]? = some ((Jvm.Cond.laysStatic "java/lang/Throwable" "SUPPRESSED_SENTINEL" "Ljava/util/List;")) := by decide +kernel
theorem tw_u797 : lw_tbl[797]? = some ((Jvm.Cond.stringRef "TreasureWalk" (81 : Nat) "the buffer has no such length")) := by decide +kernel
theorem tw_u823 : lw_tbl[823]? = some ((Jvm.Cond.arrayClass Jvm.ClassFile.FieldType.byte)) := by decide +kernel
theorem tw_u840 : lw_tbl[840]? = some ((Jvm.Cond.stringRef "TreasureWalk$Reader" (103 : Nat) "walk")) := by decide +kernel
theorem tw_u858 : lw_tbl[858]? = some ((Jvm.Cond.laysStatic "java/lang/String" "COMPACT_STRINGS" "Z")) := by decide +kernel
theorem tw_u874 : lw_tbl[874]? = some ((Jvm.Cond.laysStatic "jdk/internal/util/Preconditions" "SIOOBE_FORMATTER" "Ljava/util/function/BiFunction;")) := by decide +kernel
theorem tw_u911 : lw_tbl[911]? = some ((Jvm.Cond.stringRef "TreasureWalk$Reader" (56 : Nat) "water")) := by decide +kernel
theorem tw_u946 : lw_tbl[946]? = some ((Jvm.Cond.stringRef "TreasureWalk$Reader" (65 : Nat) "bend")) := by decide +kernel
theorem tw_u951 : lw_tbl[951]? = some ((Jvm.Cond.stringRef "TreasureWalk$Reader" (146 : Nat) "left")) := by decide +kernel
theorem tw_u952 : lw_tbl[952]? = some ((Jvm.Cond.stringRef "TreasureWalk$Reader" (148 : Nat) "right")) := by decide +kernel
theorem tw_u958 : lw_tbl[958]? = some ((Jvm.Cond.stringRef "TreasureWalk$Reader" (70 : Nat) "mark")) := by decide +kernel
theorem tw_u973 : lw_tbl[973]? = some ((Jvm.Cond.stringRef "TreasureWalk$Reader" (75 : Nat) "team")) := by decide +kernel
theorem tw_u978 : lw_tbl[978]? = some ((Jvm.Cond.stringRef "TreasureWalk$Reader" (80 : Nat) "clue")) := by decide +kernel
theorem tw_u1001 : lw_tbl[1001]? = some ((Jvm.Cond.stringRef "TreasureWalk$Reader" (177 : Nat) "or")) := by decide +kernel
theorem tw_u1006 : lw_tbl[1006]? = some ((Jvm.Cond.stringRef "TreasureWalk$Reader" (198 : Nat) "go")) := by decide +kernel
theorem tw_u1007 : lw_tbl[1007]? = some ((Jvm.Cond.stringRef "TreasureWalk$Reader" (200 : Nat) "to")) := by decide +kernel
theorem tw_u1008 : lw_tbl[1008]? = some ((Jvm.Cond.stringRef "TreasureWalk$Reader" (202 : Nat) "end")) := by decide +kernel
theorem tw_u1017 : lw_tbl[1017]? = some ((Jvm.Cond.stringRef "TreasureWalk$Reader" (244 : Nat) "n")) := by decide +kernel
theorem tw_u1018 : lw_tbl[1018]? = some ((Jvm.Cond.stringRef "TreasureWalk$Reader" (246 : Nat) "ne")) := by decide +kernel
theorem tw_u1019 : lw_tbl[1019]? = some ((Jvm.Cond.stringRef "TreasureWalk$Reader" (248 : Nat) "e")) := by decide +kernel
theorem tw_u1020 : lw_tbl[1020]? = some ((Jvm.Cond.stringRef "TreasureWalk$Reader" (250 : Nat) "se")) := by decide +kernel
theorem tw_u1021 : lw_tbl[1021]? = some ((Jvm.Cond.stringRef "TreasureWalk$Reader" (252 : Nat) "s")) := by decide +kernel
theorem tw_u1022 : lw_tbl[1022]? = some ((Jvm.Cond.stringRef "TreasureWalk$Reader" (254 : Nat) "sw")) := by decide +kernel
theorem tw_u1023 : lw_tbl[1023]? = some ((Jvm.Cond.stringRef "TreasureWalk$Reader" (256 : Nat) "w")) := by decide +kernel
theorem tw_u1024 : lw_tbl[1024]? = some ((Jvm.Cond.stringRef "TreasureWalk$Reader" (258 : Nat) "nw")) := by decide +kernel
theorem tw_u1025 : lw_tbl[1025]? = some ((Jvm.Cond.stringRef "TreasureWalk$Reader" (209 : Nat) "give")) := by decide +kernel
theorem tw_u1055 : lw_tbl[1055]? = some ((Jvm.Cond.stringRef "TreasureWalk" (274 : Nat) "there is no such cell")) := by decide +kernel
theorem tw_u1062 : lw_tbl[1062]? = some ((Jvm.Cond.stringRef "TreasureWalk" (167 : Nat) "there is no such bearing")) := by decide +kernel
theorem tw_u1083 : lw_tbl[1083]? = some ((Jvm.Cond.stringRef "TreasureWalk" (276 : Nat) "there is no such clue")) := by decide +kernel
theorem tw_u1085 : lw_tbl[1085]? = some ((Jvm.Cond.stringRef "TreasureWalk" (199 : Nat) "the clue has no such leg")) := by decide +kernel
theorem tw_u1099 : lw_tbl[1099]? = some ((Jvm.Cond.stringRef "TreasureWalk" (204 : Nat) "no walk of the clue ends there")) := by decide +kernel
theorem tw_u1224 : lw_tbl[1224]? = some ((Jvm.Cond.stringRef "TreasureWalk" (243 : Nat) "n is not 0 to 9999")) := by decide +kernel
theorem tw_u1233 : lw_tbl[1233]? = some ((Jvm.Cond.stringRef "TreasureWalk" (248 : Nat) "there is no such bend")) := by decide +kernel
theorem tw_u1234 : lw_tbl[1234]? = some ((Jvm.Cond.stringRef "TreasureWalk" (250 : Nat) "turn is not -3 to 3")) := by decide +kernel
theorem tw_u1238 : lw_tbl[1238]? = some ((Jvm.Cond.stringRef "TreasureWalkLaw" (193 : Nat) "walk")) := by decide +kernel
theorem tw_u1261 : lw_tbl[1261]? = some ((Jvm.Cond.stringRef "TreasureWalkLaw" (100 : Nat) " ")) := by decide +kernel
theorem tw_u1265 : lw_tbl[1265]? = some ((Jvm.Cond.stringRef "TreasureWalkLaw" (175 : Nat) ";")) := by decide +kernel
theorem tw_u1266 : lw_tbl[1266]? = some ((Jvm.Cond.stringRef "TreasureWalkLaw" (194 : Nat) "water")) := by decide +kernel
theorem tw_u1268 : lw_tbl[1268]? = some ((Jvm.Cond.stringRef "TreasureWalkLaw" (201 : Nat) "bend")) := by decide +kernel
theorem tw_u1269 : lw_tbl[1269]? = some ((Jvm.Cond.stringRef "TreasureWalkLaw" (203 : Nat) " left")) := by decide +kernel
theorem tw_u1270 : lw_tbl[1270]? = some ((Jvm.Cond.stringRef "TreasureWalkLaw" (205 : Nat) " right")) := by decide +kernel
theorem tw_u1273 : lw_tbl[1273]? = some ((Jvm.Cond.instantiable "java/lang/StringBuilder" (4 : Nat))) := by decide +kernel
theorem tw_u1302 : lw_tbl[1302]? = some ((Jvm.Cond.stringRef "TreasureWalkLaw" (215 : Nat) "mark ")) := by decide +kernel
theorem tw_u1315 : lw_tbl[1315]? = some ((Jvm.Cond.privateMethod ({ cls := "java/lang/AbstractStringBuilder", name := "ensureCapacityInternal", desc := "(I)V" } : Jvm.MethodName))) := by decide +kernel
theorem tw_u1316 : lw_tbl[1316]? = some ((Jvm.Cond.instanceMethod ({ cls := "java/lang/AbstractStringBuilder", name := "ensureCapacityInternal", desc := "(I)V" } : Jvm.MethodName))) := by decide +kernel
theorem tw_u1337 : lw_tbl[1337]? = some ((Jvm.Cond.castable "[B" "java/lang/Cloneable")) := by decide +kernel
theorem tw_u1342 : lw_tbl[1342]? = some ((Jvm.Cond.instanceMethod ({ cls := "java/lang/AbstractStringBuilder", name := "isLatin1", desc := "()Z" } : Jvm.MethodName))) := by decide +kernel
theorem tw_u1344 : lw_tbl[1344]? = some ((Jvm.Cond.selects "java/lang/StringBuilder" ({ cls := "java/lang/AbstractStringBuilder", name := "isLatin1", desc := "()Z" } : Jvm.MethodName) ({ cls := "java/lang/AbstractStringBuilder", name := "isLatin1", desc := "()Z" } : Jvm.MethodName))) := by decide +kernel
theorem tw_u1363 : lw_tbl[1363]? = some ((Jvm.Cond.privateMethod ({ cls := "java/lang/AbstractStringBuilder", name := "putStringAt", desc := "(ILjava/lang/String;)V" } : Jvm.MethodName))) := by decide +kernel
theorem tw_u1364 : lw_tbl[1364]? = some ((Jvm.Cond.instanceMethod ({ cls := "java/lang/AbstractStringBuilder", name := "putStringAt", desc := "(ILjava/lang/String;)V" } : Jvm.MethodName))) := by decide +kernel
theorem tw_u1367 : lw_tbl[1367]? = some ((Jvm.Cond.privateMethod ({ cls := "java/lang/AbstractStringBuilder", name := "inflateIfNeededFor", desc := "(Ljava/lang/String;)V" } : Jvm.MethodName))) := by decide +kernel
theorem tw_u1368 : lw_tbl[1368]? = some ((Jvm.Cond.instanceMethod ({ cls := "java/lang/AbstractStringBuilder", name := "inflateIfNeededFor", desc := "(Ljava/lang/String;)V" } : Jvm.MethodName))) := by decide +kernel
theorem tw_u1414 : lw_tbl[1414]? = some ((Jvm.Cond.instantiable "java/lang/String" (4 : Nat))) := by decide +kernel
theorem tw_u1498 : lw_tbl[1498]? = some ((Jvm.Cond.stringRef "TreasureWalkLaw" (220 : Nat) "team")) := by decide +kernel
theorem tw_u1504 : lw_tbl[1504]? = some ((Jvm.Cond.stringRef "TreasureWalkLaw" (108 : Nat) "clue ")) := by decide +kernel
theorem tw_u1508 : lw_tbl[1508]? = some ((Jvm.Cond.stringRef "TreasureWalkLaw" (122 : Nat) " or ")) := by decide +kernel
theorem tw_u1509 : lw_tbl[1509]? = some ((Jvm.Cond.stringRef "TreasureWalkLaw" (127 : Nat) "")) := by decide +kernel
theorem tw_u1511 : lw_tbl[1511]? = some ((Jvm.Cond.instantiable "TreasureWalkLaw$Leg" (4 : Nat))) := by decide +kernel
theorem tw_u1533 : lw_tbl[1533]? = some ((Jvm.Cond.stringRef "TreasureWalkLaw" (159 : Nat) " go")) := by decide +kernel
theorem tw_u1534 : lw_tbl[1534]? = some ((Jvm.Cond.stringRef "TreasureWalkLaw" (165 : Nat) " to ")) := by decide +kernel
theorem tw_u1535 : lw_tbl[1535]? = some ((Jvm.Cond.stringRef "TreasureWalkLaw" (167 : Nat) " end")) := by decide +kernel
theorem tw_u1537 : lw_tbl[1537]? = some ((Jvm.Cond.laysStatic "TreasureWalkLaw" "BEARINGS" "[Ljava/lang/String;")) := by decide +kernel
theorem tw_u1538 : lw_tbl[1538]? = some ((Jvm.Cond.stringRef "TreasureWalkLaw" (173 : Nat) " give")) := by decide +kernel
theorem tw_u1569 : lw_tbl[1569]? = some ((Jvm.Cond.stringRef "TreasureWalk" (155 : Nat) "what is not 0 to 12")) := by decide +kernel
theorem tw_u1579 : lw_tbl[1579]? = some ((Jvm.Cond.stringRef "TreasureWalk" (184 : Nat) "the clue has not so many legs")) := by decide +kernel
theorem tw_u1624 : lw_tbl[1624]? = some ((Jvm.Cond.arrayOver (Jvm.ClassFile.FieldType.object "TreasureWalkLaw$Island"))) := by decide +kernel
theorem tw_u1657 : lw_tbl[1657]? = some ((Jvm.Cond.stringRef "TreasureWalkLaw" (334 : Nat) "n")) := by decide +kernel
theorem tw_u1658 : lw_tbl[1658]? = some ((Jvm.Cond.stringRef "TreasureWalkLaw" (336 : Nat) "ne")) := by decide +kernel
theorem tw_u1659 : lw_tbl[1659]? = some ((Jvm.Cond.stringRef "TreasureWalkLaw" (338 : Nat) "e")) := by decide +kernel
theorem tw_u1660 : lw_tbl[1660]? = some ((Jvm.Cond.stringRef "TreasureWalkLaw" (340 : Nat) "se")) := by decide +kernel
theorem tw_u1661 : lw_tbl[1661]? = some ((Jvm.Cond.stringRef "TreasureWalkLaw" (342 : Nat) "s")) := by decide +kernel
theorem tw_u1662 : lw_tbl[1662]? = some ((Jvm.Cond.stringRef "TreasureWalkLaw" (344 : Nat) "sw")) := by decide +kernel
theorem tw_u1663 : lw_tbl[1663]? = some ((Jvm.Cond.stringRef "TreasureWalkLaw" (346 : Nat) "w")) := by decide +kernel
theorem tw_u1664 : lw_tbl[1664]? = some ((Jvm.Cond.stringRef "TreasureWalkLaw" (348 : Nat) "nw")) := by decide +kernel
