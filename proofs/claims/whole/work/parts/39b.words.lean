theorem tw_u88 : lw_tbl[88]? = some ((Jvm.Cond.initialized "TreasureWalk")) := by decide +kernel
theorem tw_u89 : lw_tbl[89]? = some ((Jvm.Cond.initialized "TreasureWalk$Data")) := by decide +kernel
theorem tw_u90 : lw_tbl[90]? = some ((Jvm.Cond.initialized "TreasureWalk$Cells")) := by decide +kernel
theorem tw_u91 : lw_tbl[91]? = some ((Jvm.Cond.initialized "TreasureWalk$Row")) := by decide +kernel
theorem tw_u92 : lw_tbl[92]? = some ((Jvm.Cond.initialized "TreasureWalk$Clues")) := by decide +kernel
theorem tw_u94 : lw_tbl[94]? = some ((Jvm.Cond.initialized "TreasureWalk$Trails")) := by decide +kernel
theorem tw_u95 : lw_tbl[95]? = some ((Jvm.Cond.initialized "TreasureWalk$Layers")) := by decide +kernel
theorem tw_u96 : lw_tbl[96]? = some ((Jvm.Cond.initialized "TreasureWalk$Survey")) := by decide +kernel
theorem tw_u97 : lw_tbl[97]? = some ((Jvm.Cond.initialized "TreasureWalk$Flood")) := by decide +kernel
theorem tw_u98 : lw_tbl[98]? = some ((Jvm.Cond.initialized "TreasureWalk$History")) := by decide +kernel
theorem tw_u99 : lw_tbl[99]? = some ((Jvm.Cond.initialized "TreasureWalk$Reader")) := by decide +kernel
theorem tw_u100 : lw_tbl[100]? = some ((Jvm.Cond.initialized "TreasureWalk$Tours")) := by decide +kernel
theorem tw_u101 : lw_tbl[101]? = some ((Jvm.Cond.initialized "TreasureWalkModel")) := by decide +kernel
theorem tw_u119 : lw_tbl[119]? = some ((Jvm.Cond.code ({ cls := "TreasureWalk", name := "<init>", desc := "()V" } : Jvm.MethodName) prog_1_method_1_code (4 : Nat) (Option.none : Option Jvm.ClassFile.FieldType))) := by decide +kernel
theorem tw_u121 : lw_tbl[121]? = some ((Jvm.Cond.instanceMethod ({ cls := "java/lang/Object", name := "<init>", desc := "()V" } : Jvm.MethodName))) := by decide +kernel
theorem tw_u122 : lw_tbl[122]? = some ((Jvm.Cond.code ({ cls := "java/lang/Object", name := "<init>", desc := "()V" } : Jvm.MethodName) object_method_1_code (1 : Nat) (Option.none : Option Jvm.ClassFile.FieldType))) := by decide +kernel
theorem tw_u124 : lw_tbl[124]? = some ((Jvm.Cond.instantiable "TreasureWalk$Data" (14 : Nat))) := by decide +kernel
theorem tw_u126 : lw_tbl[126]? = some ((Jvm.Cond.instanceMethod ({ cls := "TreasureWalk$Data", name := "<init>", desc := "()V" } : Jvm.MethodName))) := by decide +kernel
theorem tw_u127 : lw_tbl[127]? = some ((Jvm.Cond.code ({ cls := "TreasureWalk$Data", name := "<init>", desc := "()V" } : Jvm.MethodName) prog_4_method_1_code (1 : Nat) (Option.none : Option Jvm.ClassFile.FieldType))) := by decide +kernel
theorem tw_u128 : lw_tbl[128]? = some ((Jvm.Cond.methodLink "TreasureWalk$Data" (3 : Nat) ({ cls := "java/lang/Object", name := "<init>", desc := "()V" } : Jvm.MethodName))) := by decide +kernel
theorem tw_u129 : lw_tbl[129]? = some ((Jvm.Cond.classLink "TreasureWalk$Data" (9 : Nat) "TreasureWalk$Cells")) := by decide +kernel
theorem tw_u130 : lw_tbl[130]? = some ((Jvm.Cond.instantiable "TreasureWalk$Cells" (1 : Nat))) := by decide +kernel
theorem tw_u131 : lw_tbl[131]? = some ((Jvm.Cond.methodLinkNest "TreasureWalk$Data" (11 : Nat) ({ cls := "TreasureWalk$Cells", name := "<init>", desc := "()V" } : Jvm.MethodName) "TreasureWalk")) := by decide +kernel
theorem tw_u132 : lw_tbl[132]? = some ((Jvm.Cond.instanceMethod ({ cls := "TreasureWalk$Cells", name := "<init>", desc := "()V" } : Jvm.MethodName))) := by decide +kernel
theorem tw_u133 : lw_tbl[133]? = some ((Jvm.Cond.code ({ cls := "TreasureWalk$Cells", name := "<init>", desc := "()V" } : Jvm.MethodName) prog_2_method_1_code (1 : Nat) (Option.none : Option Jvm.ClassFile.FieldType))) := by decide +kernel
theorem tw_u134 : lw_tbl[134]? = some ((Jvm.Cond.methodLink "TreasureWalk$Cells" (3 : Nat) ({ cls := "java/lang/Object", name := "<init>", desc := "()V" } : Jvm.MethodName))) := by decide +kernel
theorem tw_u135 : lw_tbl[135]? = some ((Jvm.Cond.fieldLink "TreasureWalk$Cells" (9 : Nat) "TreasureWalk$Cells" "rows" "[I")) := by decide +kernel
theorem tw_u140 : lw_tbl[140]? = some ((Jvm.Cond.classLink "TreasureWalk$Data" (21 : Nat) "TreasureWalk$Row")) := by decide +kernel
theorem tw_u141 : lw_tbl[141]? = some ((Jvm.Cond.instantiable "TreasureWalk$Row" (1 : Nat))) := by decide +kernel
theorem tw_u142 : lw_tbl[142]? = some ((Jvm.Cond.methodLink "TreasureWalk$Data" (23 : Nat) ({ cls := "TreasureWalk$Row", name := "<init>", desc := "(I)V" } : Jvm.MethodName))) := by decide +kernel
theorem tw_u143 : lw_tbl[143]? = some ((Jvm.Cond.instanceMethod ({ cls := "TreasureWalk$Row", name := "<init>", desc := "(I)V" } : Jvm.MethodName))) := by decide +kernel
theorem tw_u144 : lw_tbl[144]? = some ((Jvm.Cond.code ({ cls := "TreasureWalk$Row", name := "<init>", desc := "(I)V" } : Jvm.MethodName) prog_9_method_1_code (2 : Nat) (Option.none : Option Jvm.ClassFile.FieldType))) := by decide +kernel
theorem tw_u145 : lw_tbl[145]? = some ((Jvm.Cond.methodLink "TreasureWalk$Row" (1 : Nat) ({ cls := "java/lang/Object", name := "<init>", desc := "()V" } : Jvm.MethodName))) := by decide +kernel
theorem tw_u146 : lw_tbl[146]? = some ((Jvm.Cond.fieldLink "TreasureWalk$Row" (7 : Nat) "TreasureWalk$Row" "numbers" "[I")) := by decide +kernel
theorem tw_u150 : lw_tbl[150]? = some ((Jvm.Cond.classLink "TreasureWalk$Data" (39 : Nat) "TreasureWalk$Clues")) := by decide +kernel
theorem tw_u151 : lw_tbl[151]? = some ((Jvm.Cond.instantiable "TreasureWalk$Clues" (10 : Nat))) := by decide +kernel
theorem tw_u152 : lw_tbl[152]? = some ((Jvm.Cond.methodLinkNest "TreasureWalk$Data" (41 : Nat) ({ cls := "TreasureWalk$Clues", name := "<init>", desc := "()V" } : Jvm.MethodName) "TreasureWalk")) := by decide +kernel
theorem tw_u153 : lw_tbl[153]? = some ((Jvm.Cond.instanceMethod ({ cls := "TreasureWalk$Clues", name := "<init>", desc := "()V" } : Jvm.MethodName))) := by decide +kernel
theorem tw_u154 : lw_tbl[154]? = some ((Jvm.Cond.code ({ cls := "TreasureWalk$Clues", name := "<init>", desc := "()V" } : Jvm.MethodName) prog_3_method_1_code (1 : Nat) (Option.none : Option Jvm.ClassFile.FieldType))) := by decide +kernel
theorem tw_u155 : lw_tbl[155]? = some ((Jvm.Cond.methodLink "TreasureWalk$Clues" (3 : Nat) ({ cls := "java/lang/Object", name := "<init>", desc := "()V" } : Jvm.MethodName))) := by decide +kernel
theorem tw_u156 : lw_tbl[156]? = some ((Jvm.Cond.classLink "TreasureWalk$Clues" (9 : Nat) "TreasureWalk$Row")) := by decide +kernel
theorem tw_u157 : lw_tbl[157]? = some ((Jvm.Cond.methodLink "TreasureWalk$Clues" (11 : Nat) ({ cls := "TreasureWalk$Row", name := "<init>", desc := "(I)V" } : Jvm.MethodName))) := by decide +kernel
theorem tw_u163 : lw_tbl[163]? = some ((Jvm.Cond.fieldLink "TreasureWalk$Clues" (14 : Nat) "TreasureWalk$Clues" "used" "LTreasureWalk$Row;")) := by decide +kernel
theorem tw_u166 : lw_tbl[166]? = some ((Jvm.Cond.fieldLink "TreasureWalk$Clues" (20 : Nat) "TreasureWalk$Clues" "startCounts" "LTreasureWalk$Row;")) := by decide +kernel
theorem tw_u168 : lw_tbl[168]? = some ((Jvm.Cond.fieldLink "TreasureWalk$Clues" (23 : Nat) "TreasureWalk$Clues" "starts" "LTreasureWalk$Row;")) := by decide +kernel
theorem tw_u169 : lw_tbl[169]? = some ((Jvm.Cond.fieldLink "TreasureWalk$Clues" (26 : Nat) "TreasureWalk$Clues" "legCounts" "LTreasureWalk$Row;")) := by decide +kernel
theorem tw_u173 : lw_tbl[173]? = some ((Jvm.Cond.fieldLink "TreasureWalk$Clues" (29 : Nat) "TreasureWalk$Clues" "kinds" "LTreasureWalk$Row;")) := by decide +kernel
theorem tw_u176 : lw_tbl[176]? = some ((Jvm.Cond.fieldLink "TreasureWalk$Clues" (32 : Nat) "TreasureWalk$Clues" "bearings" "LTreasureWalk$Row;")) := by decide +kernel
theorem tw_u179 : lw_tbl[179]? = some ((Jvm.Cond.fieldLink "TreasureWalk$Clues" (35 : Nat) "TreasureWalk$Clues" "fewestPaces" "LTreasureWalk$Row;")) := by decide +kernel
theorem tw_u182 : lw_tbl[182]? = some ((Jvm.Cond.fieldLink "TreasureWalk$Clues" (38 : Nat) "TreasureWalk$Clues" "mostPaces" "LTreasureWalk$Row;")) := by decide +kernel
theorem tw_u185 : lw_tbl[185]? = some ((Jvm.Cond.fieldLink "TreasureWalk$Clues" (41 : Nat) "TreasureWalk$Clues" "goals" "LTreasureWalk$Row;")) := by decide +kernel
theorem tw_u215 : lw_tbl[215]? = some ((Jvm.Cond.fieldLink "TreasureWalk$Data" (12 : Nat) "TreasureWalk$Data" "land" "LTreasureWalk$Cells;")) := by decide +kernel
theorem tw_u220 : lw_tbl[220]? = some ((Jvm.Cond.fieldLink "TreasureWalk$Data" (18 : Nat) "TreasureWalk$Data" "dug" "LTreasureWalk$Cells;")) := by decide +kernel
theorem tw_u223 : lw_tbl[223]? = some ((Jvm.Cond.fieldLink "TreasureWalk$Data" (26 : Nat) "TreasureWalk$Data" "marks" "LTreasureWalk$Row;")) := by decide +kernel
theorem tw_u230 : lw_tbl[230]? = some ((Jvm.Cond.fieldLink "TreasureWalk$Data" (30 : Nat) "TreasureWalk$Data" "bendFirsts" "LTreasureWalk$Row;")) := by decide +kernel
theorem tw_u232 : lw_tbl[232]? = some ((Jvm.Cond.fieldLink "TreasureWalk$Data" (33 : Nat) "TreasureWalk$Data" "bendLasts" "LTreasureWalk$Row;")) := by decide +kernel
theorem tw_u234 : lw_tbl[234]? = some ((Jvm.Cond.fieldLink "TreasureWalk$Data" (36 : Nat) "TreasureWalk$Data" "bendTurns" "LTreasureWalk$Row;")) := by decide +kernel
theorem tw_u237 : lw_tbl[237]? = some ((Jvm.Cond.fieldLink "TreasureWalk$Data" (42 : Nat) "TreasureWalk$Data" "clues" "LTreasureWalk$Clues;")) := by decide +kernel
theorem tw_u315 : lw_tbl[315]? = some ((Jvm.Cond.code ({ cls := "TreasureWalk$Trails", name := "<init>", desc := "(LTreasureWalk$Data;)V" } : Jvm.MethodName) prog_12_method_1_code (2 : Nat) (Option.none : Option Jvm.ClassFile.FieldType))) := by decide +kernel
theorem tw_u316 : lw_tbl[316]? = some ((Jvm.Cond.methodLink "TreasureWalk$Trails" (3 : Nat) ({ cls := "java/lang/Object", name := "<init>", desc := "()V" } : Jvm.MethodName))) := by decide +kernel
theorem tw_u317 : lw_tbl[317]? = some ((Jvm.Cond.classLink "TreasureWalk$Trails" (9 : Nat) "TreasureWalk$Row")) := by decide +kernel
theorem tw_u318 : lw_tbl[318]? = some ((Jvm.Cond.methodLink "TreasureWalk$Trails" (11 : Nat) ({ cls := "TreasureWalk$Row", name := "<init>", desc := "(I)V" } : Jvm.MethodName))) := by decide +kernel
theorem tw_u319 : lw_tbl[319]? = some ((Jvm.Cond.classLink "TreasureWalk$Trails" (20 : Nat) "TreasureWalk$Layers")) := by decide +kernel
theorem tw_u320 : lw_tbl[320]? = some ((Jvm.Cond.instantiable "TreasureWalk$Layers" (2 : Nat))) := by decide +kernel
theorem tw_u321 : lw_tbl[321]? = some ((Jvm.Cond.methodLink "TreasureWalk$Trails" (22 : Nat) ({ cls := "TreasureWalk$Layers", name := "<init>", desc := "(I)V" } : Jvm.MethodName))) := by decide +kernel
theorem tw_u322 : lw_tbl[322]? = some ((Jvm.Cond.instanceMethod ({ cls := "TreasureWalk$Layers", name := "<init>", desc := "(I)V" } : Jvm.MethodName))) := by decide +kernel
theorem tw_u323 : lw_tbl[323]? = some ((Jvm.Cond.code ({ cls := "TreasureWalk$Layers", name := "<init>", desc := "(I)V" } : Jvm.MethodName) prog_7_method_1_code (3 : Nat) (Option.none : Option Jvm.ClassFile.FieldType))) := by decide +kernel
theorem tw_u324 : lw_tbl[324]? = some ((Jvm.Cond.methodLink "TreasureWalk$Layers" (1 : Nat) ({ cls := "java/lang/Object", name := "<init>", desc := "()V" } : Jvm.MethodName))) := by decide +kernel
theorem tw_u325 : lw_tbl[325]? = some ((Jvm.Cond.classLink "TreasureWalk$Layers" (7 : Nat) "TreasureWalk$Cells")) := by decide +kernel
theorem tw_u326 : lw_tbl[326]? = some ((Jvm.Cond.methodLinkNest "TreasureWalk$Layers" (9 : Nat) ({ cls := "TreasureWalk$Cells", name := "<init>", desc := "()V" } : Jvm.MethodName) "TreasureWalk")) := by decide +kernel
theorem tw_u328 : lw_tbl[328]? = some ((Jvm.Cond.fieldLink "TreasureWalk$Layers" (16 : Nat) "TreasureWalk$Layers" "sets" "[LTreasureWalk$Cells;")) := by decide +kernel
theorem tw_u329 : lw_tbl[329]? = some ((Jvm.Cond.fieldLink "TreasureWalk$Layers" (10 : Nat) "TreasureWalk$Layers" "outside" "LTreasureWalk$Cells;")) := by decide +kernel
theorem tw_u335 : lw_tbl[335]? = some ((Jvm.Cond.fieldLink "TreasureWalk$Trails" (30 : Nat) "TreasureWalk$Trails" "data" "LTreasureWalk$Data;")) := by decide +kernel
theorem tw_u336 : lw_tbl[336]? = some ((Jvm.Cond.fieldLink "TreasureWalk$Trails" (14 : Nat) "TreasureWalk$Trails" "twists" "LTreasureWalk$Row;")) := by decide +kernel
theorem tw_u337 : lw_tbl[337]? = some ((Jvm.Cond.fieldLink "TreasureWalk$Trails" (23 : Nat) "TreasureWalk$Trails" "layers" "LTreasureWalk$Layers;")) := by decide +kernel
theorem tw_u338 : lw_tbl[338]? = some ((Jvm.Cond.fieldLink "TreasureWalk$Trails" (27 : Nat) "TreasureWalk$Trails" "ways" "LTreasureWalk$Layers;")) := by decide +kernel
theorem tw_u352 : lw_tbl[352]? = some ((Jvm.Cond.code ({ cls := "TreasureWalk$Survey", name := "<init>", desc := "(LTreasureWalk$Data;LTreasureWalk$Trails;)V" } : Jvm.MethodName) prog_10_method_1_code (3 : Nat) (Option.none : Option Jvm.ClassFile.FieldType))) := by decide +kernel
theorem tw_u353 : lw_tbl[353]? = some ((Jvm.Cond.methodLink "TreasureWalk$Survey" (3 : Nat) ({ cls := "java/lang/Object", name := "<init>", desc := "()V" } : Jvm.MethodName))) := by decide +kernel
theorem tw_u354 : lw_tbl[354]? = some ((Jvm.Cond.classLink "TreasureWalk$Survey" (9 : Nat) "TreasureWalk$Flood")) := by decide +kernel
theorem tw_u355 : lw_tbl[355]? = some ((Jvm.Cond.instantiable "TreasureWalk$Flood" (2 : Nat))) := by decide +kernel
theorem tw_u356 : lw_tbl[356]? = some ((Jvm.Cond.methodLinkNest "TreasureWalk$Survey" (11 : Nat) ({ cls := "TreasureWalk$Flood", name := "<init>", desc := "()V" } : Jvm.MethodName) "TreasureWalk")) := by decide +kernel
theorem tw_u357 : lw_tbl[357]? = some ((Jvm.Cond.instanceMethod ({ cls := "TreasureWalk$Flood", name := "<init>", desc := "()V" } : Jvm.MethodName))) := by decide +kernel
theorem tw_u358 : lw_tbl[358]? = some ((Jvm.Cond.code ({ cls := "TreasureWalk$Flood", name := "<init>", desc := "()V" } : Jvm.MethodName) prog_5_method_1_code (1 : Nat) (Option.none : Option Jvm.ClassFile.FieldType))) := by decide +kernel
theorem tw_u359 : lw_tbl[359]? = some ((Jvm.Cond.methodLink "TreasureWalk$Flood" (3 : Nat) ({ cls := "java/lang/Object", name := "<init>", desc := "()V" } : Jvm.MethodName))) := by decide +kernel
theorem tw_u360 : lw_tbl[360]? = some ((Jvm.Cond.classLink "TreasureWalk$Flood" (9 : Nat) "TreasureWalk$Row")) := by decide +kernel
theorem tw_u361 : lw_tbl[361]? = some ((Jvm.Cond.methodLink "TreasureWalk$Flood" (11 : Nat) ({ cls := "TreasureWalk$Row", name := "<init>", desc := "(I)V" } : Jvm.MethodName))) := by decide +kernel
theorem tw_u362 : lw_tbl[362]? = some ((Jvm.Cond.fieldLink "TreasureWalk$Flood" (14 : Nat) "TreasureWalk$Flood" "distances" "LTreasureWalk$Row;")) := by decide +kernel
theorem tw_u364 : lw_tbl[364]? = some ((Jvm.Cond.fieldLink "TreasureWalk$Flood" (20 : Nat) "TreasureWalk$Flood" "queue" "LTreasureWalk$Row;")) := by decide +kernel
theorem tw_u370 : lw_tbl[370]? = some ((Jvm.Cond.classLink "TreasureWalk$Survey" (18 : Nat) "TreasureWalk$Cells")) := by decide +kernel
theorem tw_u371 : lw_tbl[371]? = some ((Jvm.Cond.methodLinkNest "TreasureWalk$Survey" (20 : Nat) ({ cls := "TreasureWalk$Cells", name := "<init>", desc := "()V" } : Jvm.MethodName) "TreasureWalk")) := by decide +kernel
theorem tw_u372 : lw_tbl[372]? = some ((Jvm.Cond.fieldLink "TreasureWalk$Survey" (25 : Nat) "TreasureWalk$Survey" "data" "LTreasureWalk$Data;")) := by decide +kernel
theorem tw_u373 : lw_tbl[373]? = some ((Jvm.Cond.fieldLink "TreasureWalk$Survey" (29 : Nat) "TreasureWalk$Survey" "trails" "LTreasureWalk$Trails;")) := by decide +kernel
theorem tw_u374 : lw_tbl[374]? = some ((Jvm.Cond.fieldLink "TreasureWalk$Survey" (12 : Nat) "TreasureWalk$Survey" "flood" "LTreasureWalk$Flood;")) := by decide +kernel
theorem tw_u375 : lw_tbl[375]? = some ((Jvm.Cond.fieldLink "TreasureWalk$Survey" (21 : Nat) "TreasureWalk$Survey" "chosen" "LTreasureWalk$Cells;")) := by decide +kernel
theorem tw_u389 : lw_tbl[389]? = some ((Jvm.Cond.code ({ cls := "TreasureWalk$History", name := "<init>", desc := "()V" } : Jvm.MethodName) prog_6_method_1_code (2 : Nat) (Option.none : Option Jvm.ClassFile.FieldType))) := by decide +kernel
theorem tw_u390 : lw_tbl[390]? = some ((Jvm.Cond.methodLink "TreasureWalk$History" (3 : Nat) ({ cls := "java/lang/Object", name := "<init>", desc := "()V" } : Jvm.MethodName))) := by decide +kernel
theorem tw_u391 : lw_tbl[391]? = some ((Jvm.Cond.classLink "TreasureWalk$History" (9 : Nat) "TreasureWalk$Data")) := by decide +kernel
theorem tw_u393 : lw_tbl[393]? = some ((Jvm.Cond.methodLinkNest "TreasureWalk$History" (17 : Nat) ({ cls := "TreasureWalk$Data", name := "<init>", desc := "()V" } : Jvm.MethodName) "TreasureWalk")) := by decide +kernel
theorem tw_u394 : lw_tbl[394]? = some ((Jvm.Cond.fieldLink "TreasureWalk$History" (11 : Nat) "TreasureWalk$History" "kept" "[LTreasureWalk$Data;")) := by decide +kernel
theorem tw_u409 : lw_tbl[409]? = some ((Jvm.Cond.code ({ cls := "TreasureWalk$Reader", name := "<init>", desc := "()V" } : Jvm.MethodName) prog_8_method_1_code (1 : Nat) (Option.none : Option Jvm.ClassFile.FieldType))) := by decide +kernel
theorem tw_u410 : lw_tbl[410]? = some ((Jvm.Cond.methodLink "TreasureWalk$Reader" (3 : Nat) ({ cls := "java/lang/Object", name := "<init>", desc := "()V" } : Jvm.MethodName))) := by decide +kernel
theorem tw_u411 : lw_tbl[411]? = some ((Jvm.Cond.classLink "TreasureWalk$Reader" (9 : Nat) "TreasureWalk$Row")) := by decide +kernel
theorem tw_u412 : lw_tbl[412]? = some ((Jvm.Cond.methodLink "TreasureWalk$Reader" (11 : Nat) ({ cls := "TreasureWalk$Row", name := "<init>", desc := "(I)V" } : Jvm.MethodName))) := by decide +kernel
theorem tw_u413 : lw_tbl[413]? = some ((Jvm.Cond.classLink "TreasureWalk$Reader" (20 : Nat) "TreasureWalk$Data")) := by decide +kernel
theorem tw_u414 : lw_tbl[414]? = some ((Jvm.Cond.methodLinkNest "TreasureWalk$Reader" (22 : Nat) ({ cls := "TreasureWalk$Data", name := "<init>", desc := "()V" } : Jvm.MethodName) "TreasureWalk")) := by decide +kernel
theorem tw_u415 : lw_tbl[415]? = some ((Jvm.Cond.fieldLink "TreasureWalk$Reader" (14 : Nat) "TreasureWalk$Reader" "text" "LTreasureWalk$Row;")) := by decide +kernel
theorem tw_u418 : lw_tbl[418]? = some ((Jvm.Cond.fieldLink "TreasureWalk$Reader" (23 : Nat) "TreasureWalk$Reader" "draft" "LTreasureWalk$Data;")) := by decide +kernel
theorem tw_u456 : lw_tbl[456]? = some ((Jvm.Cond.code ({ cls := "TreasureWalk$Tours", name := "<init>", desc := "(LTreasureWalk$Data;LTreasureWalk$Survey;)V" } : Jvm.MethodName) prog_11_method_1_code (3 : Nat) (Option.none : Option Jvm.ClassFile.FieldType))) := by decide +kernel
theorem tw_u457 : lw_tbl[457]? = some ((Jvm.Cond.methodLink "TreasureWalk$Tours" (3 : Nat) ({ cls := "java/lang/Object", name := "<init>", desc := "()V" } : Jvm.MethodName))) := by decide +kernel
theorem tw_u458 : lw_tbl[458]? = some ((Jvm.Cond.classLink "TreasureWalk$Tours" (9 : Nat) "TreasureWalk$Row")) := by decide +kernel
theorem tw_u459 : lw_tbl[459]? = some ((Jvm.Cond.methodLink "TreasureWalk$Tours" (11 : Nat) ({ cls := "TreasureWalk$Row", name := "<init>", desc := "(I)V" } : Jvm.MethodName))) := by decide +kernel
theorem tw_u460 : lw_tbl[460]? = some ((Jvm.Cond.fieldLink "TreasureWalk$Tours" (26 : Nat) "TreasureWalk$Tours" "data" "LTreasureWalk$Data;")) := by decide +kernel
theorem tw_u461 : lw_tbl[461]? = some ((Jvm.Cond.fieldLink "TreasureWalk$Tours" (30 : Nat) "TreasureWalk$Tours" "survey" "LTreasureWalk$Survey;")) := by decide +kernel
theorem tw_u463 : lw_tbl[463]? = some ((Jvm.Cond.fieldLink "TreasureWalk$Tours" (14 : Nat) "TreasureWalk$Tours" "stops" "LTreasureWalk$Row;")) := by decide +kernel
theorem tw_u464 : lw_tbl[464]? = some ((Jvm.Cond.fieldLink "TreasureWalk$Tours" (20 : Nat) "TreasureWalk$Tours" "hops" "LTreasureWalk$Row;")) := by decide +kernel
theorem tw_u465 : lw_tbl[465]? = some ((Jvm.Cond.fieldLink "TreasureWalk$Tours" (23 : Nat) "TreasureWalk$Tours" "best" "LTreasureWalk$Row;")) := by decide +kernel
theorem tw_u1241 : lw_tbl[1241]? = some ((Jvm.Cond.code ({ cls := "TreasureWalkModel", name := "<init>", desc := "()V" } : Jvm.MethodName) prog_14_method_1_code (1 : Nat) (Option.none : Option Jvm.ClassFile.FieldType))) := by decide +kernel
