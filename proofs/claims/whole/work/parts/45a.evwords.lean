theorem tw_u102 : lw_tbl[102]? = some ((Jvm.Cond.initialized "java/lang/Throwable")) := by decide +kernel
theorem tw_u106 : lw_tbl[106]? = some ((Jvm.Cond.initialized "java/lang/String")) := by decide +kernel
theorem tw_u108 : lw_tbl[108]? = some ((Jvm.Cond.initialized "jdk/internal/util/Preconditions")) := by decide +kernel
theorem tw_u116 : lw_tbl[116]? = some ((Jvm.Cond.instantiable "TreasureWalk" (7 : Nat))) := by decide +kernel
theorem tw_u139 : lw_tbl[139]? = some ((Jvm.Cond.arrayClass Jvm.ClassFile.FieldType.int)) := by decide +kernel
theorem tw_u327 : lw_tbl[327]? = some ((Jvm.Cond.arrayOver (Jvm.ClassFile.FieldType.object "TreasureWalk$Cells"))) := by decide +kernel
theorem tw_u392 : lw_tbl[392]? = some ((Jvm.Cond.arrayOver (Jvm.ClassFile.FieldType.object "TreasureWalk$Data"))) := by decide +kernel
theorem tw_u591 : lw_tbl[591]? = some ((Jvm.Cond.laysStatic "TreasureWalk" "OFFSETS" "[I")) := by decide +kernel
theorem tw_u805 : lw_tbl[805]? = some ((Jvm.Cond.laysStatic "java/lang/Throwable" "UNASSIGNED_STACK" "[Ljava/lang/StackTraceElement;")) := by decide +kernel
theorem tw_u807 : lw_tbl[807]? = some ((Jvm.Cond.laysStatic "java/lang/Throwable" "SUPPRESSED_SENTINEL" "Ljava/util/List;")) := by decide +kernel
theorem tw_u819 : lw_tbl[819]? = some ((Jvm.Cond.stringRef "TreasureWalk" (155 : Nat) "what is not 0 to 12")) := by decide +kernel
theorem tw_u863 : lw_tbl[863]? = some ((Jvm.Cond.stringRef "TreasureWalk" (274 : Nat) "there is no such cell")) := by decide +kernel
theorem tw_u880 : lw_tbl[880]? = some ((Jvm.Cond.stringRef "TreasureWalk" (276 : Nat) "there is no such clue")) := by decide +kernel
theorem tw_u881 : lw_tbl[881]? = some ((Jvm.Cond.stringRef "TreasureWalk" (184 : Nat) "the clue has not so many legs")) := by decide +kernel
theorem tw_u891 : lw_tbl[891]? = some ((Jvm.Cond.stringRef "TreasureWalk" (81 : Nat) "the buffer has no such length")) := by decide +kernel
theorem tw_u908 : lw_tbl[908]? = some ((Jvm.Cond.stringRef "TreasureWalk$Reader" (103 : Nat) "walk")) := by decide +kernel
theorem tw_u926 : lw_tbl[926]? = some ((Jvm.Cond.laysStatic "java/lang/String" "COMPACT_STRINGS" "Z")) := by decide +kernel
theorem tw_u942 : lw_tbl[942]? = some ((Jvm.Cond.laysStatic "jdk/internal/util/Preconditions" "SIOOBE_FORMATTER" "Ljava/util/function/BiFunction;")) := by decide +kernel
theorem tw_u979 : lw_tbl[979]? = some ((Jvm.Cond.stringRef "TreasureWalk$Reader" (56 : Nat) "water")) := by decide +kernel
theorem tw_u1004 : lw_tbl[1004]? = some ((Jvm.Cond.stringRef "TreasureWalk$Reader" (65 : Nat) "bend")) := by decide +kernel
theorem tw_u1009 : lw_tbl[1009]? = some ((Jvm.Cond.stringRef "TreasureWalk$Reader" (146 : Nat) "left")) := by decide +kernel
theorem tw_u1010 : lw_tbl[1010]? = some ((Jvm.Cond.stringRef "TreasureWalk$Reader" (148 : Nat) "right")) := by decide +kernel
theorem tw_u1016 : lw_tbl[1016]? = some ((Jvm.Cond.stringRef "TreasureWalk$Reader" (70 : Nat) "mark")) := by decide +kernel
theorem tw_u1030 : lw_tbl[1030]? = some ((Jvm.Cond.stringRef "TreasureWalk$Reader" (75 : Nat) "team")) := by decide +kernel
theorem tw_u1035 : lw_tbl[1035]? = some ((Jvm.Cond.stringRef "TreasureWalk$Reader" (80 : Nat) "clue")) := by decide +kernel
theorem tw_u1058 : lw_tbl[1058]? = some ((Jvm.Cond.stringRef "TreasureWalk$Reader" (177 : Nat) "or")) := by decide +kernel
theorem tw_u1063 : lw_tbl[1063]? = some ((Jvm.Cond.stringRef "TreasureWalk$Reader" (198 : Nat) "go")) := by decide +kernel
theorem tw_u1064 : lw_tbl[1064]? = some ((Jvm.Cond.stringRef "TreasureWalk$Reader" (200 : Nat) "to")) := by decide +kernel
theorem tw_u1065 : lw_tbl[1065]? = some ((Jvm.Cond.stringRef "TreasureWalk$Reader" (202 : Nat) "end")) := by decide +kernel
theorem tw_u1074 : lw_tbl[1074]? = some ((Jvm.Cond.stringRef "TreasureWalk$Reader" (244 : Nat) "n")) := by decide +kernel
theorem tw_u1075 : lw_tbl[1075]? = some ((Jvm.Cond.stringRef "TreasureWalk$Reader" (246 : Nat) "ne")) := by decide +kernel
theorem tw_u1076 : lw_tbl[1076]? = some ((Jvm.Cond.stringRef "TreasureWalk$Reader" (248 : Nat) "e")) := by decide +kernel
theorem tw_u1077 : lw_tbl[1077]? = some ((Jvm.Cond.stringRef "TreasureWalk$Reader" (250 : Nat) "se")) := by decide +kernel
theorem tw_u1078 : lw_tbl[1078]? = some ((Jvm.Cond.stringRef "TreasureWalk$Reader" (252 : Nat) "s")) := by decide +kernel
theorem tw_u1079 : lw_tbl[1079]? = some ((Jvm.Cond.stringRef "TreasureWalk$Reader" (254 : Nat) "sw")) := by decide +kernel
theorem tw_u1080 : lw_tbl[1080]? = some ((Jvm.Cond.stringRef "TreasureWalk$Reader" (256 : Nat) "w")) := by decide +kernel
theorem tw_u1081 : lw_tbl[1081]? = some ((Jvm.Cond.stringRef "TreasureWalk$Reader" (258 : Nat) "nw")) := by decide +kernel
theorem tw_u1082 : lw_tbl[1082]? = some ((Jvm.Cond.stringRef "TreasureWalk$Reader" (209 : Nat) "give")) := by decide +kernel
theorem tw_u1104 : lw_tbl[1104]? = some ((Jvm.Cond.stringRef "TreasureWalk" (167 : Nat) "there is no such bearing")) := by decide +kernel
theorem tw_u1137 : lw_tbl[1137]? = some ((Jvm.Cond.stringRef "TreasureWalk" (199 : Nat) "the clue has no such leg")) := by decide +kernel
theorem tw_u1147 : lw_tbl[1147]? = some ((Jvm.Cond.stringRef "TreasureWalk" (204 : Nat) "no walk of the clue ends there")) := by decide +kernel
theorem tw_u1226 : lw_tbl[1226]? = some ((Jvm.Cond.stringRef "TreasureWalk" (243 : Nat) "n is not 0 to 9999")) := by decide +kernel
theorem tw_u1235 : lw_tbl[1235]? = some ((Jvm.Cond.stringRef "TreasureWalk" (248 : Nat) "there is no such bend")) := by decide +kernel
theorem tw_u1236 : lw_tbl[1236]? = some ((Jvm.Cond.stringRef "TreasureWalk" (250 : Nat) "turn is not -3 to 3")) := by decide +kernel
theorem tw_u1238 : lw_tbl[1238]? = some ((Jvm.Cond.instantiable "TreasureWalkModel" (31 : Nat))) := by decide +kernel
theorem tw_u1244 : lw_tbl[1244]? = some ((Jvm.Cond.arrayOver (Jvm.ClassFile.FieldType.array Jvm.ClassFile.FieldType.int))) := by decide +kernel
theorem tw_u1246 : lw_tbl[1246]? = some ((Jvm.Cond.arrayOver (Jvm.ClassFile.FieldType.array (Jvm.ClassFile.FieldType.array Jvm.ClassFile.FieldType.boolean)))) := by decide +kernel
theorem tw_u1247 : lw_tbl[1247]? = some ((Jvm.Cond.arrayOver (Jvm.ClassFile.FieldType.array Jvm.ClassFile.FieldType.boolean))) := by decide +kernel
theorem tw_u1346 : lw_tbl[1346]? = some ((Jvm.Cond.arrayClass Jvm.ClassFile.FieldType.boolean)) := by decide +kernel
theorem tw_u1366 : lw_tbl[1366]? = some ((Jvm.Cond.stringRef "TreasureWalkModel" (250 : Nat) "walk")) := by decide +kernel
theorem tw_u1411 : lw_tbl[1411]? = some ((Jvm.Cond.stringRef "TreasureWalkModel" (218 : Nat) "water")) := by decide +kernel
theorem tw_u1427 : lw_tbl[1427]? = some ((Jvm.Cond.stringRef "TreasureWalkModel" (223 : Nat) "bend")) := by decide +kernel
theorem tw_u1432 : lw_tbl[1432]? = some ((Jvm.Cond.stringRef "TreasureWalkModel" (159 : Nat) "left")) := by decide +kernel
theorem tw_u1433 : lw_tbl[1433]? = some ((Jvm.Cond.stringRef "TreasureWalkModel" (165 : Nat) "right")) := by decide +kernel
theorem tw_u1437 : lw_tbl[1437]? = some ((Jvm.Cond.stringRef "TreasureWalkModel" (228 : Nat) "mark")) := by decide +kernel
theorem tw_u1450 : lw_tbl[1450]? = some ((Jvm.Cond.stringRef "TreasureWalkModel" (233 : Nat) "team")) := by decide +kernel
theorem tw_u1455 : lw_tbl[1455]? = some ((Jvm.Cond.stringRef "TreasureWalkModel" (238 : Nat) "clue")) := by decide +kernel
theorem tw_u1471 : lw_tbl[1471]? = some ((Jvm.Cond.stringRef "TreasureWalkModel" (207 : Nat) "or")) := by decide +kernel
theorem tw_u1472 : lw_tbl[1472]? = some ((Jvm.Cond.stringRef "TreasureWalkModel" (209 : Nat) "go")) := by decide +kernel
theorem tw_u1473 : lw_tbl[1473]? = some ((Jvm.Cond.stringRef "TreasureWalkModel" (211 : Nat) "to")) := by decide +kernel
theorem tw_u1474 : lw_tbl[1474]? = some ((Jvm.Cond.stringRef "TreasureWalkModel" (213 : Nat) "end")) := by decide +kernel
theorem tw_u1483 : lw_tbl[1483]? = some ((Jvm.Cond.stringRef "TreasureWalkModel" (179 : Nat) "n")) := by decide +kernel
theorem tw_u1484 : lw_tbl[1484]? = some ((Jvm.Cond.stringRef "TreasureWalkModel" (181 : Nat) "ne")) := by decide +kernel
theorem tw_u1485 : lw_tbl[1485]? = some ((Jvm.Cond.stringRef "TreasureWalkModel" (183 : Nat) "e")) := by decide +kernel
theorem tw_u1486 : lw_tbl[1486]? = some ((Jvm.Cond.stringRef "TreasureWalkModel" (185 : Nat) "se")) := by decide +kernel
theorem tw_u1487 : lw_tbl[1487]? = some ((Jvm.Cond.stringRef "TreasureWalkModel" (187 : Nat) "s")) := by decide +kernel
theorem tw_u1488 : lw_tbl[1488]? = some ((Jvm.Cond.stringRef "TreasureWalkModel" (189 : Nat) "sw")) := by decide +kernel
theorem tw_u1489 : lw_tbl[1489]? = some ((Jvm.Cond.stringRef "TreasureWalkModel" (191 : Nat) "w")) := by decide +kernel
theorem tw_u1490 : lw_tbl[1490]? = some ((Jvm.Cond.stringRef "TreasureWalkModel" (193 : Nat) "nw")) := by decide +kernel
theorem tw_u1491 : lw_tbl[1491]? = some ((Jvm.Cond.stringRef "TreasureWalkModel" (198 : Nat) "give")) := by decide +kernel
theorem tw_u1706 : lw_tbl[1706]? = some ((Jvm.Cond.arrayClass Jvm.ClassFile.FieldType.long)) := by decide +kernel
