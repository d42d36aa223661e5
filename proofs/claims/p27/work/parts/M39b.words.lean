theorem tw_u36 : lw_tbl[36]? = some ((Jvm.Cond.initialized "TreasureWalk")) := by decide +kernel
theorem tw_u37 : lw_tbl[37]? = some ((Jvm.Cond.initialized "TreasureWalk$Data")) := by decide +kernel
theorem tw_u38 : lw_tbl[38]? = some ((Jvm.Cond.initialized "TreasureWalk$Cells")) := by decide +kernel
theorem tw_u39 : lw_tbl[39]? = some ((Jvm.Cond.initialized "TreasureWalk$Row")) := by decide +kernel
theorem tw_u40 : lw_tbl[40]? = some ((Jvm.Cond.initialized "TreasureWalk$Clues")) := by decide +kernel
theorem tw_u42 : lw_tbl[42]? = some ((Jvm.Cond.initialized "TreasureWalk$Trails")) := by decide +kernel
theorem tw_u43 : lw_tbl[43]? = some ((Jvm.Cond.initialized "TreasureWalk$Layers")) := by decide +kernel
theorem tw_u44 : lw_tbl[44]? = some ((Jvm.Cond.initialized "TreasureWalk$Survey")) := by decide +kernel
theorem tw_u45 : lw_tbl[45]? = some ((Jvm.Cond.initialized "TreasureWalk$Flood")) := by decide +kernel
theorem tw_u46 : lw_tbl[46]? = some ((Jvm.Cond.initialized "TreasureWalk$History")) := by decide +kernel
theorem tw_u47 : lw_tbl[47]? = some ((Jvm.Cond.initialized "TreasureWalk$Reader")) := by decide +kernel
theorem tw_u48 : lw_tbl[48]? = some ((Jvm.Cond.initialized "TreasureWalk$Tours")) := by decide +kernel
theorem tw_u74 : lw_tbl[74]? = some ((Jvm.Cond.code ({ cls := "TreasureWalk", name := "<init>", desc := "()V" } : Jvm.MethodName) prog_1_method_1_code (4 : Nat) (Option.none : Option Jvm.ClassFile.FieldType))) := by decide +kernel
theorem tw_u76 : lw_tbl[76]? = some ((Jvm.Cond.instanceMethod ({ cls := "java/lang/Object", name := "<init>", desc := "()V" } : Jvm.MethodName))) := by decide +kernel
theorem tw_u77 : lw_tbl[77]? = some ((Jvm.Cond.code ({ cls := "java/lang/Object", name := "<init>", desc := "()V" } : Jvm.MethodName) object_method_1_code (1 : Nat) (Option.none : Option Jvm.ClassFile.FieldType))) := by decide +kernel
theorem tw_u79 : lw_tbl[79]? = some ((Jvm.Cond.instantiable "TreasureWalk$Data" (14 : Nat))) := by decide +kernel
theorem tw_u81 : lw_tbl[81]? = some ((Jvm.Cond.instanceMethod ({ cls := "TreasureWalk$Data", name := "<init>", desc := "()V" } : Jvm.MethodName))) := by decide +kernel
theorem tw_u82 : lw_tbl[82]? = some ((Jvm.Cond.code ({ cls := "TreasureWalk$Data", name := "<init>", desc := "()V" } : Jvm.MethodName) prog_4_method_1_code (1 : Nat) (Option.none : Option Jvm.ClassFile.FieldType))) := by decide +kernel
theorem tw_u83 : lw_tbl[83]? = some ((Jvm.Cond.methodLink "TreasureWalk$Data" (3 : Nat) ({ cls := "java/lang/Object", name := "<init>", desc := "()V" } : Jvm.MethodName))) := by decide +kernel
theorem tw_u84 : lw_tbl[84]? = some ((Jvm.Cond.classLink "TreasureWalk$Data" (9 : Nat) "TreasureWalk$Cells")) := by decide +kernel
theorem tw_u85 : lw_tbl[85]? = some ((Jvm.Cond.instantiable "TreasureWalk$Cells" (1 : Nat))) := by decide +kernel
theorem tw_u86 : lw_tbl[86]? = some ((Jvm.Cond.methodLinkNest "TreasureWalk$Data" (11 : Nat) ({ cls := "TreasureWalk$Cells", name := "<init>", desc := "()V" } : Jvm.MethodName) "TreasureWalk")) := by decide +kernel
theorem tw_u87 : lw_tbl[87]? = some ((Jvm.Cond.instanceMethod ({ cls := "TreasureWalk$Cells", name := "<init>", desc := "()V" } : Jvm.MethodName))) := by decide +kernel
theorem tw_u88 : lw_tbl[88]? = some ((Jvm.Cond.code ({ cls := "TreasureWalk$Cells", name := "<init>", desc := "()V" } : Jvm.MethodName) prog_2_method_1_code (1 : Nat) (Option.none : Option Jvm.ClassFile.FieldType))) := by decide +kernel
theorem tw_u89 : lw_tbl[89]? = some ((Jvm.Cond.methodLink "TreasureWalk$Cells" (3 : Nat) ({ cls := "java/lang/Object", name := "<init>", desc := "()V" } : Jvm.MethodName))) := by decide +kernel
theorem tw_u90 : lw_tbl[90]? = some ((Jvm.Cond.fieldLink "TreasureWalk$Cells" (9 : Nat) "TreasureWalk$Cells" "rows" "[I")) := by decide +kernel
theorem tw_u95 : lw_tbl[95]? = some ((Jvm.Cond.classLink "TreasureWalk$Data" (21 : Nat) "TreasureWalk$Row")) := by decide +kernel
theorem tw_u96 : lw_tbl[96]? = some ((Jvm.Cond.instantiable "TreasureWalk$Row" (1 : Nat))) := by decide +kernel
theorem tw_u97 : lw_tbl[97]? = some ((Jvm.Cond.methodLink "TreasureWalk$Data" (23 : Nat) ({ cls := "TreasureWalk$Row", name := "<init>", desc := "(I)V" } : Jvm.MethodName))) := by decide +kernel
theorem tw_u98 : lw_tbl[98]? = some ((Jvm.Cond.instanceMethod ({ cls := "TreasureWalk$Row", name := "<init>", desc := "(I)V" } : Jvm.MethodName))) := by decide +kernel
theorem tw_u99 : lw_tbl[99]? = some ((Jvm.Cond.code ({ cls := "TreasureWalk$Row", name := "<init>", desc := "(I)V" } : Jvm.MethodName) prog_9_method_1_code (2 : Nat) (Option.none : Option Jvm.ClassFile.FieldType))) := by decide +kernel
theorem tw_u100 : lw_tbl[100]? = some ((Jvm.Cond.methodLink "TreasureWalk$Row" (1 : Nat) ({ cls := "java/lang/Object", name := "<init>", desc := "()V" } : Jvm.MethodName))) := by decide +kernel
theorem tw_u101 : lw_tbl[101]? = some ((Jvm.Cond.fieldLink "TreasureWalk$Row" (7 : Nat) "TreasureWalk$Row" "numbers" "[I")) := by decide +kernel
theorem tw_u105 : lw_tbl[105]? = some ((Jvm.Cond.classLink "TreasureWalk$Data" (39 : Nat) "TreasureWalk$Clues")) := by decide +kernel
theorem tw_u106 : lw_tbl[106]? = some ((Jvm.Cond.instantiable "TreasureWalk$Clues" (10 : Nat))) := by decide +kernel
theorem tw_u107 : lw_tbl[107]? = some ((Jvm.Cond.methodLinkNest "TreasureWalk$Data" (41 : Nat) ({ cls := "TreasureWalk$Clues", name := "<init>", desc := "()V" } : Jvm.MethodName) "TreasureWalk")) := by decide +kernel
theorem tw_u108 : lw_tbl[108]? = some ((Jvm.Cond.instanceMethod ({ cls := "TreasureWalk$Clues", name := "<init>", desc := "()V" } : Jvm.MethodName))) := by decide +kernel
theorem tw_u109 : lw_tbl[109]? = some ((Jvm.Cond.code ({ cls := "TreasureWalk$Clues", name := "<init>", desc := "()V" } : Jvm.MethodName) prog_3_method_1_code (1 : Nat) (Option.none : Option Jvm.ClassFile.FieldType))) := by decide +kernel
theorem tw_u110 : lw_tbl[110]? = some ((Jvm.Cond.methodLink "TreasureWalk$Clues" (3 : Nat) ({ cls := "java/lang/Object", name := "<init>", desc := "()V" } : Jvm.MethodName))) := by decide +kernel
theorem tw_u111 : lw_tbl[111]? = some ((Jvm.Cond.classLink "TreasureWalk$Clues" (9 : Nat) "TreasureWalk$Row")) := by decide +kernel
theorem tw_u112 : lw_tbl[112]? = some ((Jvm.Cond.methodLink "TreasureWalk$Clues" (11 : Nat) ({ cls := "TreasureWalk$Row", name := "<init>", desc := "(I)V" } : Jvm.MethodName))) := by decide +kernel
theorem tw_u118 : lw_tbl[118]? = some ((Jvm.Cond.fieldLink "TreasureWalk$Clues" (14 : Nat) "TreasureWalk$Clues" "used" "LTreasureWalk$Row;")) := by decide +kernel
theorem tw_u121 : lw_tbl[121]? = some ((Jvm.Cond.fieldLink "TreasureWalk$Clues" (20 : Nat) "TreasureWalk$Clues" "startCounts" "LTreasureWalk$Row;")) := by decide +kernel
theorem tw_u123 : lw_tbl[123]? = some ((Jvm.Cond.fieldLink "TreasureWalk$Clues" (23 : Nat) "TreasureWalk$Clues" "starts" "LTreasureWalk$Row;")) := by decide +kernel
theorem tw_u124 : lw_tbl[124]? = some ((Jvm.Cond.fieldLink "TreasureWalk$Clues" (26 : Nat) "TreasureWalk$Clues" "legCounts" "LTreasureWalk$Row;")) := by decide +kernel
theorem tw_u128 : lw_tbl[128]? = some ((Jvm.Cond.fieldLink "TreasureWalk$Clues" (29 : Nat) "TreasureWalk$Clues" "kinds" "LTreasureWalk$Row;")) := by decide +kernel
theorem tw_u131 : lw_tbl[131]? = some ((Jvm.Cond.fieldLink "TreasureWalk$Clues" (32 : Nat) "TreasureWalk$Clues" "bearings" "LTreasureWalk$Row;")) := by decide +kernel
theorem tw_u134 : lw_tbl[134]? = some ((Jvm.Cond.fieldLink "TreasureWalk$Clues" (35 : Nat) "TreasureWalk$Clues" "fewestPaces" "LTreasureWalk$Row;")) := by decide +kernel
theorem tw_u137 : lw_tbl[137]? = some ((Jvm.Cond.fieldLink "TreasureWalk$Clues" (38 : Nat) "TreasureWalk$Clues" "mostPaces" "LTreasureWalk$Row;")) := by decide +kernel
theorem tw_u140 : lw_tbl[140]? = some ((Jvm.Cond.fieldLink "TreasureWalk$Clues" (41 : Nat) "TreasureWalk$Clues" "goals" "LTreasureWalk$Row;")) := by decide +kernel
theorem tw_u170 : lw_tbl[170]? = some ((Jvm.Cond.fieldLink "TreasureWalk$Data" (12 : Nat) "TreasureWalk$Data" "land" "LTreasureWalk$Cells;")) := by decide +kernel
theorem tw_u175 : lw_tbl[175]? = some ((Jvm.Cond.fieldLink "TreasureWalk$Data" (18 : Nat) "TreasureWalk$Data" "dug" "LTreasureWalk$Cells;")) := by decide +kernel
theorem tw_u178 : lw_tbl[178]? = some ((Jvm.Cond.fieldLink "TreasureWalk$Data" (26 : Nat) "TreasureWalk$Data" "marks" "LTreasureWalk$Row;")) := by decide +kernel
theorem tw_u185 : lw_tbl[185]? = some ((Jvm.Cond.fieldLink "TreasureWalk$Data" (30 : Nat) "TreasureWalk$Data" "bendFirsts" "LTreasureWalk$Row;")) := by decide +kernel
theorem tw_u187 : lw_tbl[187]? = some ((Jvm.Cond.fieldLink "TreasureWalk$Data" (33 : Nat) "TreasureWalk$Data" "bendLasts" "LTreasureWalk$Row;")) := by decide +kernel
theorem tw_u189 : lw_tbl[189]? = some ((Jvm.Cond.fieldLink "TreasureWalk$Data" (36 : Nat) "TreasureWalk$Data" "bendTurns" "LTreasureWalk$Row;")) := by decide +kernel
theorem tw_u192 : lw_tbl[192]? = some ((Jvm.Cond.fieldLink "TreasureWalk$Data" (42 : Nat) "TreasureWalk$Data" "clues" "LTreasureWalk$Clues;")) := by decide +kernel
theorem tw_u268 : lw_tbl[268]? = some ((Jvm.Cond.code ({ cls := "TreasureWalk$Trails", name := "<init>", desc := "(LTreasureWalk$Data;)V" } : Jvm.MethodName) prog_12_method_1_code (2 : Nat) (Option.none : Option Jvm.ClassFile.FieldType))) := by decide +kernel
theorem tw_u269 : lw_tbl[269]? = some ((Jvm.Cond.methodLink "TreasureWalk$Trails" (3 : Nat) ({ cls := "java/lang/Object", name := "<init>", desc := "()V" } : Jvm.MethodName))) := by decide +kernel
theorem tw_u270 : lw_tbl[270]? = some ((Jvm.Cond.classLink "TreasureWalk$Trails" (9 : Nat) "TreasureWalk$Row")) := by decide +kernel
theorem tw_u271 : lw_tbl[271]? = some ((Jvm.Cond.methodLink "TreasureWalk$Trails" (11 : Nat) ({ cls := "TreasureWalk$Row", name := "<init>", desc := "(I)V" } : Jvm.MethodName))) := by decide +kernel
theorem tw_u272 : lw_tbl[272]? = some ((Jvm.Cond.classLink "TreasureWalk$Trails" (20 : Nat) "TreasureWalk$Layers")) := by decide +kernel
theorem tw_u273 : lw_tbl[273]? = some ((Jvm.Cond.instantiable "TreasureWalk$Layers" (2 : Nat))) := by decide +kernel
theorem tw_u274 : lw_tbl[274]? = some ((Jvm.Cond.methodLink "TreasureWalk$Trails" (22 : Nat) ({ cls := "TreasureWalk$Layers", name := "<init>", desc := "(I)V" } : Jvm.MethodName))) := by decide +kernel
theorem tw_u275 : lw_tbl[275]? = some ((Jvm.Cond.instanceMethod ({ cls := "TreasureWalk$Layers", name := "<init>", desc := "(I)V" } : Jvm.MethodName))) := by decide +kernel
theorem tw_u276 : lw_tbl[276]? = some ((Jvm.Cond.code ({ cls := "TreasureWalk$Layers", name := "<init>", desc := "(I)V" } : Jvm.MethodName) prog_7_method_1_code (3 : Nat) (Option.none : Option Jvm.ClassFile.FieldType))) := by decide +kernel
theorem tw_u277 : lw_tbl[277]? = some ((Jvm.Cond.methodLink "TreasureWalk$Layers" (1 : Nat) ({ cls := "java/lang/Object", name := "<init>", desc := "()V" } : Jvm.MethodName))) := by decide +kernel
theorem tw_u278 : lw_tbl[278]? = some ((Jvm.Cond.classLink "TreasureWalk$Layers" (7 : Nat) "TreasureWalk$Cells")) := by decide +kernel
theorem tw_u279 : lw_tbl[279]? = some ((Jvm.Cond.methodLinkNest "TreasureWalk$Layers" (9 : Nat) ({ cls := "TreasureWalk$Cells", name := "<init>", desc := "()V" } : Jvm.MethodName) "TreasureWalk")) := by decide +kernel
theorem tw_u281 : lw_tbl[281]? = some ((Jvm.Cond.fieldLink "TreasureWalk$Layers" (16 : Nat) "TreasureWalk$Layers" "sets" "[LTreasureWalk$Cells;")) := by decide +kernel
theorem tw_u282 : lw_tbl[282]? = some ((Jvm.Cond.fieldLink "TreasureWalk$Layers" (10 : Nat) "TreasureWalk$Layers" "outside" "LTreasureWalk$Cells;")) := by decide +kernel
theorem tw_u288 : lw_tbl[288]? = some ((Jvm.Cond.fieldLink "TreasureWalk$Trails" (30 : Nat) "TreasureWalk$Trails" "data" "LTreasureWalk$Data;")) := by decide +kernel
theorem tw_u289 : lw_tbl[289]? = some ((Jvm.Cond.fieldLink "TreasureWalk$Trails" (14 : Nat) "TreasureWalk$Trails" "twists" "LTreasureWalk$Row;")) := by decide +kernel
theorem tw_u290 : lw_tbl[290]? = some ((Jvm.Cond.fieldLink "TreasureWalk$Trails" (23 : Nat) "TreasureWalk$Trails" "layers" "LTreasureWalk$Layers;")) := by decide +kernel
theorem tw_u291 : lw_tbl[291]? = some ((Jvm.Cond.fieldLink "TreasureWalk$Trails" (27 : Nat) "TreasureWalk$Trails" "ways" "LTreasureWalk$Layers;")) := by decide +kernel
theorem tw_u305 : lw_tbl[305]? = some ((Jvm.Cond.code ({ cls := "TreasureWalk$Survey", name := "<init>", desc := "(LTreasureWalk$Data;LTreasureWalk$Trails;)V" } : Jvm.MethodName) prog_10_method_1_code (3 : Nat) (Option.none : Option Jvm.ClassFile.FieldType))) := by decide +kernel
theorem tw_u306 : lw_tbl[306]? = some ((Jvm.Cond.methodLink "TreasureWalk$Survey" (3 : Nat) ({ cls := "java/lang/Object", name := "<init>", desc := "()V" } : Jvm.MethodName))) := by decide +kernel
theorem tw_u307 : lw_tbl[307]? = some ((Jvm.Cond.classLink "TreasureWalk$Survey" (9 : Nat) "TreasureWalk$Flood")) := by decide +kernel
theorem tw_u308 : lw_tbl[308]? = some ((Jvm.Cond.instantiable "TreasureWalk$Flood" (2 : Nat))) := by decide +kernel
theorem tw_u309 : lw_tbl[309]? = some ((Jvm.Cond.methodLinkNest "TreasureWalk$Survey" (11 : Nat) ({ cls := "TreasureWalk$Flood", name := "<init>", desc := "()V" } : Jvm.MethodName) "TreasureWalk")) := by decide +kernel
theorem tw_u310 : lw_tbl[310]? = some ((Jvm.Cond.instanceMethod ({ cls := "TreasureWalk$Flood", name := "<init>", desc := "()V" } : Jvm.MethodName))) := by decide +kernel
theorem tw_u311 : lw_tbl[311]? = some ((Jvm.Cond.code ({ cls := "TreasureWalk$Flood", name := "<init>", desc := "()V" } : Jvm.MethodName) prog_5_method_1_code (1 : Nat) (Option.none : Option Jvm.ClassFile.FieldType))) := by decide +kernel
theorem tw_u312 : lw_tbl[312]? = some ((Jvm.Cond.methodLink "TreasureWalk$Flood" (3 : Nat) ({ cls := "java/lang/Object", name := "<init>", desc := "()V" } : Jvm.MethodName))) := by decide +kernel
theorem tw_u313 : lw_tbl[313]? = some ((Jvm.Cond.classLink "TreasureWalk$Flood" (9 : Nat) "TreasureWalk$Row")) := by decide +kernel
theorem tw_u314 : lw_tbl[314]? = some ((Jvm.Cond.methodLink "TreasureWalk$Flood" (11 : Nat) ({ cls := "TreasureWalk$Row", name := "<init>", desc := "(I)V" } : Jvm.MethodName))) := by decide +kernel
theorem tw_u315 : lw_tbl[315]? = some ((Jvm.Cond.fieldLink "TreasureWalk$Flood" (14 : Nat) "TreasureWalk$Flood" "distances" "LTreasureWalk$Row;")) := by decide +kernel
theorem tw_u317 : lw_tbl[317]? = some ((Jvm.Cond.fieldLink "TreasureWalk$Flood" (20 : Nat) "TreasureWalk$Flood" "queue" "LTreasureWalk$Row;")) := by decide +kernel
theorem tw_u323 : lw_tbl[323]? = some ((Jvm.Cond.classLink "TreasureWalk$Survey" (18 : Nat) "TreasureWalk$Cells")) := by decide +kernel
theorem tw_u324 : lw_tbl[324]? = some ((Jvm.Cond.methodLinkNest "TreasureWalk$Survey" (20 : Nat) ({ cls := "TreasureWalk$Cells", name := "<init>", desc := "()V" } : Jvm.MethodName) "TreasureWalk")) := by decide +kernel
theorem tw_u325 : lw_tbl[325]? = some ((Jvm.Cond.fieldLink "TreasureWalk$Survey" (25 : Nat) "TreasureWalk$Survey" "data" "LTreasureWalk$Data;")) := by decide +kernel
theorem tw_u326 : lw_tbl[326]? = some ((Jvm.Cond.fieldLink "TreasureWalk$Survey" (29 : Nat) "TreasureWalk$Survey" "trails" "LTreasureWalk$Trails;")) := by decide +kernel
theorem tw_u327 : lw_tbl[327]? = some ((Jvm.Cond.fieldLink "TreasureWalk$Survey" (12 : Nat) "TreasureWalk$Survey" "flood" "LTreasureWalk$Flood;")) := by decide +kernel
theorem tw_u328 : lw_tbl[328]? = some ((Jvm.Cond.fieldLink "TreasureWalk$Survey" (21 : Nat) "TreasureWalk$Survey" "chosen" "LTreasureWalk$Cells;")) := by decide +kernel
theorem tw_u342 : lw_tbl[342]? = some ((Jvm.Cond.code ({ cls := "TreasureWalk$History", name := "<init>", desc := "()V" } : Jvm.MethodName) prog_6_method_1_code (2 : Nat) (Option.none : Option Jvm.ClassFile.FieldType))) := by decide +kernel
theorem tw_u343 : lw_tbl[343]? = some ((Jvm.Cond.methodLink "TreasureWalk$History" (3 : Nat) ({ cls := "java/lang/Object", name := "<init>", desc := "()V" } : Jvm.MethodName))) := by decide +kernel
theorem tw_u344 : lw_tbl[344]? = some ((Jvm.Cond.classLink "TreasureWalk$History" (9 : Nat) "TreasureWalk$Data")) := by decide +kernel
theorem tw_u346 : lw_tbl[346]? = some ((Jvm.Cond.methodLinkNest "TreasureWalk$History" (17 : Nat) ({ cls := "TreasureWalk$Data", name := "<init>", desc := "()V" } : Jvm.MethodName) "TreasureWalk")) := by decide +kernel
theorem tw_u347 : lw_tbl[347]? = some ((Jvm.Cond.fieldLink "TreasureWalk$History" (11 : Nat) "TreasureWalk$History" "kept" "[LTreasureWalk$Data;")) := by decide +kernel
theorem tw_u362 : lw_tbl[362]? = some ((Jvm.Cond.code ({ cls := "TreasureWalk$Reader", name := "<init>", desc := "()V" } : Jvm.MethodName) prog_8_method_1_code (1 : Nat) (Option.none : Option Jvm.ClassFile.FieldType))) := by decide +kernel
theorem tw_u363 : lw_tbl[363]? = some ((Jvm.Cond.methodLink "TreasureWalk$Reader" (3 : Nat) ({ cls := "java/lang/Object", name := "<init>", desc := "()V" } : Jvm.MethodName))) := by decide +kernel
theorem tw_u364 : lw_tbl[364]? = some ((Jvm.Cond.classLink "TreasureWalk$Reader" (9 : Nat) "TreasureWalk$Row")) := by decide +kernel
theorem tw_u365 : lw_tbl[365]? = some ((Jvm.Cond.methodLink "TreasureWalk$Reader" (11 : Nat) ({ cls := "TreasureWalk$Row", name := "<init>", desc := "(I)V" } : Jvm.MethodName))) := by decide +kernel
theorem tw_u366 : lw_tbl[366]? = some ((Jvm.Cond.classLink "TreasureWalk$Reader" (20 : Nat) "TreasureWalk$Data")) := by decide +kernel
theorem tw_u367 : lw_tbl[367]? = some ((Jvm.Cond.methodLinkNest "TreasureWalk$Reader" (22 : Nat) ({ cls := "TreasureWalk$Data", name := "<init>", desc := "()V" } : Jvm.MethodName) "TreasureWalk")) := by decide +kernel
theorem tw_u368 : lw_tbl[368]? = some ((Jvm.Cond.fieldLink "TreasureWalk$Reader" (14 : Nat) "TreasureWalk$Reader" "text" "LTreasureWalk$Row;")) := by decide +kernel
theorem tw_u371 : lw_tbl[371]? = some ((Jvm.Cond.fieldLink "TreasureWalk$Reader" (23 : Nat) "TreasureWalk$Reader" "draft" "LTreasureWalk$Data;")) := by decide +kernel
theorem tw_u409 : lw_tbl[409]? = some ((Jvm.Cond.code ({ cls := "TreasureWalk$Tours", name := "<init>", desc := "(LTreasureWalk$Data;LTreasureWalk$Survey;)V" } : Jvm.MethodName) prog_11_method_1_code (3 : Nat) (Option.none : Option Jvm.ClassFile.FieldType))) := by decide +kernel
theorem tw_u410 : lw_tbl[410]? = some ((Jvm.Cond.methodLink "TreasureWalk$Tours" (3 : Nat) ({ cls := "java/lang/Object", name := "<init>", desc := "()V" } : Jvm.MethodName))) := by decide +kernel
theorem tw_u411 : lw_tbl[411]? = some ((Jvm.Cond.classLink "TreasureWalk$Tours" (9 : Nat) "TreasureWalk$Row")) := by decide +kernel
theorem tw_u412 : lw_tbl[412]? = some ((Jvm.Cond.methodLink "TreasureWalk$Tours" (11 : Nat) ({ cls := "TreasureWalk$Row", name := "<init>", desc := "(I)V" } : Jvm.MethodName))) := by decide +kernel
theorem tw_u413 : lw_tbl[413]? = some ((Jvm.Cond.fieldLink "TreasureWalk$Tours" (26 : Nat) "TreasureWalk$Tours" "data" "LTreasureWalk$Data;")) := by decide +kernel
theorem tw_u414 : lw_tbl[414]? = some ((Jvm.Cond.fieldLink "TreasureWalk$Tours" (30 : Nat) "TreasureWalk$Tours" "survey" "LTreasureWalk$Survey;")) := by decide +kernel
theorem tw_u415 : lw_tbl[415]? = some ((Jvm.Cond.fieldLink "TreasureWalk$Tours" (14 : Nat) "TreasureWalk$Tours" "stops" "LTreasureWalk$Row;")) := by decide +kernel
theorem tw_u416 : lw_tbl[416]? = some ((Jvm.Cond.fieldLink "TreasureWalk$Tours" (20 : Nat) "TreasureWalk$Tours" "hops" "LTreasureWalk$Row;")) := by decide +kernel
theorem tw_u417 : lw_tbl[417]? = some ((Jvm.Cond.fieldLink "TreasureWalk$Tours" (23 : Nat) "TreasureWalk$Tours" "best" "LTreasureWalk$Row;")) := by decide +kernel
