theorem tw_w0 : lw_tbl[0]? = some (Cond.selects "TreasureWalk$Flood" ⟨"TreasureWalk$Flood", "visitNeighbours", "(LTreasureWalk$Cells;II)I"⟩ ⟨"TreasureWalk$Flood", "visitNeighbours", "(LTreasureWalk$Cells;II)I"⟩) := by decide +kernel
theorem tw_w1 : lw_tbl[1]? = some (Cond.selects "TreasureWalk$Tours" ⟨"TreasureWalk$Tours", "measureHops", "(II)Z"⟩ ⟨"TreasureWalk$Tours", "measureHops", "(II)Z"⟩) := by decide +kernel
theorem tw_w2 : lw_tbl[2]? = some (Cond.selects "TreasureWalk$Tours" ⟨"TreasureWalk$Tours", "joinHops", "()I"⟩ ⟨"TreasureWalk$Tours", "joinHops", "()I"⟩) := by decide +kernel
theorem tw_w3 : lw_tbl[3]? = some (Cond.selects "TreasureWalk$Tours" ⟨"TreasureWalk$Tours", "fewestTo", "(II)I"⟩ ⟨"TreasureWalk$Tours", "fewestTo", "(II)I"⟩) := by decide +kernel
theorem tw_w4 : lw_tbl[4]? = some (Cond.selects "TreasureWalk$History" ⟨"TreasureWalk$History", "placeAt", "(I)LTreasureWalk$Data;"⟩ ⟨"TreasureWalk$History", "placeAt", "(I)LTreasureWalk$Data;"⟩) := by decide +kernel
theorem tw_w5 : lw_tbl[5]? = some (Cond.selects "TreasureWalk$Trails" ⟨"TreasureWalk$Trails", "twist", "(I)V"⟩ ⟨"TreasureWalk$Trails", "twist", "(I)V"⟩) := by decide +kernel
theorem tw_w6 : lw_tbl[6]? = some (Cond.selects "TreasureWalk$Trails" ⟨"TreasureWalk$Trails", "follow", "(I)V"⟩ ⟨"TreasureWalk$Trails", "follow", "(I)V"⟩) := by decide +kernel
theorem tw_w7 : lw_tbl[7]? = some (Cond.selects "TreasureWalk$Trails" ⟨"TreasureWalk$Trails", "startSpot", "(II)I"⟩ ⟨"TreasureWalk$Trails", "startSpot", "(II)I"⟩) := by decide +kernel
theorem tw_w8 : lw_tbl[8]? = some (Cond.selects "TreasureWalk$Trails" ⟨"TreasureWalk$Trails", "followLeg", "(III)V"⟩ ⟨"TreasureWalk$Trails", "followLeg", "(III)V"⟩) := by decide +kernel
theorem tw_w9 : lw_tbl[9]? = some (Cond.selects "TreasureWalk$Trails" ⟨"TreasureWalk$Trails", "canEnd", "(III)Z"⟩ ⟨"TreasureWalk$Trails", "canEnd", "(III)Z"⟩) := by decide +kernel
theorem tw_w11 : lw_tbl[11]? = some (Cond.selects "TreasureWalk" ⟨"TreasureWalk", "checkedSpot", "(II)I"⟩ ⟨"TreasureWalk", "checkedSpot", "(II)I"⟩) := by decide +kernel
theorem tw_w12 : lw_tbl[12]? = some (Cond.selects "TreasureWalk" ⟨"TreasureWalk", "checkClue", "(I)V"⟩ ⟨"TreasureWalk", "checkClue", "(I)V"⟩) := by decide +kernel
theorem tw_w13 : lw_tbl[13]? = some (Cond.selects "TreasureWalk$Reader" ⟨"TreasureWalk$Reader", "advance", "()V"⟩ ⟨"TreasureWalk$Reader", "advance", "()V"⟩) := by decide +kernel
theorem tw_w14 : lw_tbl[14]? = some (Cond.selects "TreasureWalk$Reader" ⟨"TreasureWalk$Reader", "readMap", "()V"⟩ ⟨"TreasureWalk$Reader", "readMap", "()V"⟩) := by decide +kernel
theorem tw_w15 : lw_tbl[15]? = some (Cond.selects "TreasureWalk$Reader" ⟨"TreasureWalk$Reader", "takeWord", "(Ljava/lang/String;)V"⟩ ⟨"TreasureWalk$Reader", "takeWord", "(Ljava/lang/String;)V"⟩) := by decide +kernel
theorem tw_w16 : lw_tbl[16]? = some (Cond.selects "TreasureWalk$Reader" ⟨"TreasureWalk$Reader", "isWord", "(Ljava/lang/String;)Z"⟩ ⟨"TreasureWalk$Reader", "isWord", "(Ljava/lang/String;)Z"⟩) := by decide +kernel
theorem tw_w17 : lw_tbl[17]? = some (Cond.selects "TreasureWalk$Reader" ⟨"TreasureWalk$Reader", "fail", "(II)V"⟩ ⟨"TreasureWalk$Reader", "fail", "(II)V"⟩) := by decide +kernel
theorem tw_w18 : lw_tbl[18]? = some (Cond.selects "TreasureWalk$Reader" ⟨"TreasureWalk$Reader", "takeNumber", "(II)I"⟩ ⟨"TreasureWalk$Reader", "takeNumber", "(II)I"⟩) := by decide +kernel
theorem tw_w19 : lw_tbl[19]? = some (Cond.selects "TreasureWalk$Reader" ⟨"TreasureWalk$Reader", "takeSemicolon", "()V"⟩ ⟨"TreasureWalk$Reader", "takeSemicolon", "()V"⟩) := by decide +kernel
theorem tw_w20 : lw_tbl[20]? = some (Cond.selects "TreasureWalk$Reader" ⟨"TreasureWalk$Reader", "readWater", "()V"⟩ ⟨"TreasureWalk$Reader", "readWater", "()V"⟩) := by decide +kernel
theorem tw_w21 : lw_tbl[21]? = some (Cond.selects "TreasureWalk$Reader" ⟨"TreasureWalk$Reader", "readArea", "()V"⟩ ⟨"TreasureWalk$Reader", "readArea", "()V"⟩) := by decide +kernel
theorem tw_w22 : lw_tbl[22]? = some (Cond.selects "TreasureWalk$Reader" ⟨"TreasureWalk$Reader", "readBend", "()V"⟩ ⟨"TreasureWalk$Reader", "readBend", "()V"⟩) := by decide +kernel
theorem tw_w23 : lw_tbl[23]? = some (Cond.selects "TreasureWalk$Reader" ⟨"TreasureWalk$Reader", "readMark", "()V"⟩ ⟨"TreasureWalk$Reader", "readMark", "()V"⟩) := by decide +kernel
theorem tw_w24 : lw_tbl[24]? = some (Cond.selects "TreasureWalk$Reader" ⟨"TreasureWalk$Reader", "markAhead", "()I"⟩ ⟨"TreasureWalk$Reader", "markAhead", "()I"⟩) := by decide +kernel
theorem tw_w25 : lw_tbl[25]? = some (Cond.selects "TreasureWalk$Reader" ⟨"TreasureWalk$Reader", "takeLandSpot", "()I"⟩ ⟨"TreasureWalk$Reader", "takeLandSpot", "()I"⟩) := by decide +kernel
theorem tw_w26 : lw_tbl[26]? = some (Cond.selects "TreasureWalk$Reader" ⟨"TreasureWalk$Reader", "readTeam", "()V"⟩ ⟨"TreasureWalk$Reader", "readTeam", "()V"⟩) := by decide +kernel
theorem tw_w27 : lw_tbl[27]? = some (Cond.selects "TreasureWalk$Reader" ⟨"TreasureWalk$Reader", "readClue", "()V"⟩ ⟨"TreasureWalk$Reader", "readClue", "()V"⟩) := by decide +kernel
theorem tw_w28 : lw_tbl[28]? = some (Cond.selects "TreasureWalk$Reader" ⟨"TreasureWalk$Reader", "takeStart", "()V"⟩ ⟨"TreasureWalk$Reader", "takeStart", "()V"⟩) := by decide +kernel
theorem tw_w29 : lw_tbl[29]? = some (Cond.selects "TreasureWalk$Reader" ⟨"TreasureWalk$Reader", "takeKnownMark", "()I"⟩ ⟨"TreasureWalk$Reader", "takeKnownMark", "()I"⟩) := by decide +kernel
theorem tw_w30 : lw_tbl[30]? = some (Cond.selects "TreasureWalk$Reader" ⟨"TreasureWalk$Reader", "isLegAhead", "()Z"⟩ ⟨"TreasureWalk$Reader", "isLegAhead", "()Z"⟩) := by decide +kernel
theorem tw_w31 : lw_tbl[31]? = some (Cond.selects "TreasureWalk$Reader" ⟨"TreasureWalk$Reader", "readLeg", "()V"⟩ ⟨"TreasureWalk$Reader", "readLeg", "()V"⟩) := by decide +kernel
theorem tw_w32 : lw_tbl[32]? = some (Cond.selects "TreasureWalk$Reader" ⟨"TreasureWalk$Reader", "takeBearing", "()I"⟩ ⟨"TreasureWalk$Reader", "takeBearing", "()I"⟩) := by decide +kernel
theorem tw_w33 : lw_tbl[33]? = some (Cond.selects "TreasureWalk$Trails" ⟨"TreasureWalk$Trails", "findWays", "(II)V"⟩ ⟨"TreasureWalk$Trails", "findWays", "(II)V"⟩) := by decide +kernel
theorem tw_w34 : lw_tbl[34]? = some (Cond.selects "TreasureWalk$Trails" ⟨"TreasureWalk$Trails", "fewestPaces", "(III)I"⟩ ⟨"TreasureWalk$Trails", "fewestPaces", "(III)I"⟩) := by decide +kernel
theorem tw_w35 : lw_tbl[35]? = some (Cond.selects "TreasureWalk$Trails" ⟨"TreasureWalk$Trails", "firstStart", "(I)I"⟩ ⟨"TreasureWalk$Trails", "firstStart", "(I)I"⟩) := by decide +kernel
theorem tw_w36 : lw_tbl[36]? = some (Cond.selects "TreasureWalk$Trails" ⟨"TreasureWalk$Trails", "spotBehind", "(IIII)I"⟩ ⟨"TreasureWalk$Trails", "spotBehind", "(IIII)I"⟩) := by decide +kernel
theorem tw_w37 : lw_tbl[37]? = some (Cond.selects "TreasureWalkModel" ⟨"TreasureWalkModel", "fails", "(ZI)Z"⟩ ⟨"TreasureWalkModel", "fails", "(ZI)Z"⟩) := by decide +kernel
theorem tw_w38 : lw_tbl[38]? = some (Cond.selects "TreasureWalkModel" ⟨"TreasureWalkModel", "takeWord", "(Ljava/lang/String;)Z"⟩ ⟨"TreasureWalkModel", "takeWord", "(Ljava/lang/String;)Z"⟩) := by decide +kernel
theorem tw_w39 : lw_tbl[39]? = some (Cond.selects "TreasureWalkModel" ⟨"TreasureWalkModel", "isGood", "()Z"⟩ ⟨"TreasureWalkModel", "isGood", "()Z"⟩) := by decide +kernel
theorem tw_w40 : lw_tbl[40]? = some (Cond.selects "TreasureWalkModel" ⟨"TreasureWalkModel", "ahead", "()I"⟩ ⟨"TreasureWalkModel", "ahead", "()I"⟩) := by decide +kernel
theorem tw_w41 : lw_tbl[41]? = some (Cond.selects "TreasureWalkModel" ⟨"TreasureWalkModel", "byteAt", "(I)I"⟩ ⟨"TreasureWalkModel", "byteAt", "(I)I"⟩) := by decide +kernel
theorem tw_w42 : lw_tbl[42]? = some (Cond.selects "TreasureWalkModel" ⟨"TreasureWalkModel", "report", "(II)V"⟩ ⟨"TreasureWalkModel", "report", "(II)V"⟩) := by decide +kernel
theorem tw_w43 : lw_tbl[43]? = some (Cond.selects "TreasureWalkModel" ⟨"TreasureWalkModel", "number", "(II)I"⟩ ⟨"TreasureWalkModel", "number", "(II)I"⟩) := by decide +kernel
theorem tw_w44 : lw_tbl[44]? = some (Cond.selects "TreasureWalkModel" ⟨"TreasureWalkModel", "expect", "(I)V"⟩ ⟨"TreasureWalkModel", "expect", "(I)V"⟩) := by decide +kernel
theorem tw_w45 : lw_tbl[45]? = some (Cond.selects "TreasureWalkModel" ⟨"TreasureWalkModel", "statement", "()V"⟩ ⟨"TreasureWalkModel", "statement", "()V"⟩) := by decide +kernel
theorem tw_w46 : lw_tbl[46]? = some (Cond.selects "TreasureWalkModel" ⟨"TreasureWalkModel", "readWater", "()V"⟩ ⟨"TreasureWalkModel", "readWater", "()V"⟩) := by decide +kernel
theorem tw_w47 : lw_tbl[47]? = some (Cond.selects "TreasureWalkModel" ⟨"TreasureWalkModel", "readArea", "()V"⟩ ⟨"TreasureWalkModel", "readArea", "()V"⟩) := by decide +kernel
theorem tw_w48 : lw_tbl[48]? = some (Cond.selects "TreasureWalkModel" ⟨"TreasureWalkModel", "isInArea", "(I)Z"⟩ ⟨"TreasureWalkModel", "isInArea", "(I)Z"⟩) := by decide +kernel
theorem tw_w49 : lw_tbl[49]? = some (Cond.selects "TreasureWalkModel" ⟨"TreasureWalkModel", "readBend", "(I)V"⟩ ⟨"TreasureWalkModel", "readBend", "(I)V"⟩) := by decide +kernel
theorem tw_w50 : lw_tbl[50]? = some (Cond.selects "TreasureWalkModel" ⟨"TreasureWalkModel", "readMark", "()V"⟩ ⟨"TreasureWalkModel", "readMark", "()V"⟩) := by decide +kernel
theorem tw_w51 : lw_tbl[51]? = some (Cond.selects "TreasureWalkModel" ⟨"TreasureWalkModel", "letter", "()I"⟩ ⟨"TreasureWalkModel", "letter", "()I"⟩) := by decide +kernel
theorem tw_w52 : lw_tbl[52]? = some (Cond.selects "TreasureWalkModel" ⟨"TreasureWalkModel", "readLand", "()I"⟩ ⟨"TreasureWalkModel", "readLand", "()I"⟩) := by decide +kernel
theorem tw_w53 : lw_tbl[53]? = some (Cond.selects "TreasureWalkModel" ⟨"TreasureWalkModel", "readTeam", "(I)V"⟩ ⟨"TreasureWalkModel", "readTeam", "(I)V"⟩) := by decide +kernel
theorem tw_w54 : lw_tbl[54]? = some (Cond.selects "TreasureWalkModel" ⟨"TreasureWalkModel", "readClue", "(I)V"⟩ ⟨"TreasureWalkModel", "readClue", "(I)V"⟩) := by decide +kernel
theorem tw_w55 : lw_tbl[55]? = some (Cond.selects "TreasureWalkModel" ⟨"TreasureWalkModel", "readStart", "(I)V"⟩ ⟨"TreasureWalkModel", "readStart", "(I)V"⟩) := by decide +kernel
theorem tw_w56 : lw_tbl[56]? = some (Cond.selects "TreasureWalkModel" ⟨"TreasureWalkModel", "knownMark", "()I"⟩ ⟨"TreasureWalkModel", "knownMark", "()I"⟩) := by decide +kernel
theorem tw_w57 : lw_tbl[57]? = some (Cond.selects "TreasureWalkModel" ⟨"TreasureWalkModel", "readLeg", "(II)V"⟩ ⟨"TreasureWalkModel", "readLeg", "(II)V"⟩) := by decide +kernel
theorem tw_w58 : lw_tbl[58]? = some (Cond.selects "TreasureWalkModel" ⟨"TreasureWalkModel", "bearing", "()I"⟩ ⟨"TreasureWalkModel", "bearing", "()I"⟩) := by decide +kernel
theorem tw_w59 : lw_tbl[59]? = some (Cond.selects "TreasureWalkModel" ⟨"TreasureWalkModel", "remember", "()V"⟩ ⟨"TreasureWalkModel", "remember", "()V"⟩) := by decide +kernel
theorem tw_w60 : lw_tbl[60]? = some (Cond.selects "TreasureWalkModel" ⟨"TreasureWalkModel", "told", "(I)I"⟩ ⟨"TreasureWalkModel", "told", "(I)I"⟩) := by decide +kernel
theorem tw_w61 : lw_tbl[61]? = some (Cond.selects "TreasureWalkModel" ⟨"TreasureWalkModel", "marks", "()I"⟩ ⟨"TreasureWalkModel", "marks", "()I"⟩) := by decide +kernel
theorem tw_w62 : lw_tbl[62]? = some (Cond.selects "TreasureWalkModel" ⟨"TreasureWalkModel", "used", "()I"⟩ ⟨"TreasureWalkModel", "used", "()I"⟩) := by decide +kernel
theorem tw_w63 : lw_tbl[63]? = some (Cond.selects "TreasureWalkModel" ⟨"TreasureWalkModel", "count", "(I)I"⟩ ⟨"TreasureWalkModel", "count", "(I)I"⟩) := by decide +kernel
theorem tw_w64 : lw_tbl[64]? = some (Cond.selects "TreasureWalkModel" ⟨"TreasureWalkModel", "cells", "()I"⟩ ⟨"TreasureWalkModel", "cells", "()I"⟩) := by decide +kernel
theorem tw_w65 : lw_tbl[65]? = some (Cond.selects "TreasureWalkModel" ⟨"TreasureWalkModel", "isCandidate", "(I)Z"⟩ ⟨"TreasureWalkModel", "isCandidate", "(I)Z"⟩) := by decide +kernel
theorem tw_w66 : lw_tbl[66]? = some (Cond.selects "TreasureWalkModel" ⟨"TreasureWalkModel", "isLand", "(I)Z"⟩ ⟨"TreasureWalkModel", "isLand", "(I)Z"⟩) := by decide +kernel
theorem tw_w67 : lw_tbl[67]? = some (Cond.selects "TreasureWalkModel" ⟨"TreasureWalkModel", "firstWithout", "(I)I"⟩ ⟨"TreasureWalkModel", "firstWithout", "(I)I"⟩) := by decide +kernel
theorem tw_w68 : lw_tbl[68]? = some (Cond.selects "TreasureWalkModel" ⟨"TreasureWalkModel", "lay", "()V"⟩ ⟨"TreasureWalkModel", "lay", "()V"⟩) := by decide +kernel
theorem tw_w69 : lw_tbl[69]? = some (Cond.selects "TreasureWalkModel" ⟨"TreasureWalkModel", "legs", "(I)I"⟩ ⟨"TreasureWalkModel", "legs", "(I)I"⟩) := by decide +kernel
theorem tw_w70 : lw_tbl[70]? = some (Cond.selects "TreasureWalkModel" ⟨"TreasureWalkModel", "startOf", "(II)I"⟩ ⟨"TreasureWalkModel", "startOf", "(II)I"⟩) := by decide +kernel
theorem tw_w71 : lw_tbl[71]? = some (Cond.selects "TreasureWalkModel" ⟨"TreasureWalkModel", "layLeg", "(II)V"⟩ ⟨"TreasureWalkModel", "layLeg", "(II)V"⟩) := by decide +kernel
theorem tw_w72 : lw_tbl[72]? = some (Cond.selects "TreasureWalkModel" ⟨"TreasureWalkModel", "layEnds", "(II)I"⟩ ⟨"TreasureWalkModel", "layEnds", "(II)I"⟩) := by decide +kernel
theorem tw_w73 : lw_tbl[73]? = some (Cond.selects "TreasureWalkModel" ⟨"TreasureWalkModel", "step", "(II)I"⟩ ⟨"TreasureWalkModel", "step", "(II)I"⟩) := by decide +kernel
theorem tw_w74 : lw_tbl[74]? = some (Cond.selects "TreasureWalkModel" ⟨"TreasureWalkModel", "neighbour", "(II)I"⟩ ⟨"TreasureWalkModel", "neighbour", "(II)I"⟩) := by decide +kernel
theorem tw_w75 : lw_tbl[75]? = some (Cond.selects "TreasureWalkModel" ⟨"TreasureWalkModel", "cellAt", "(II)I"⟩ ⟨"TreasureWalkModel", "cellAt", "(II)I"⟩) := by decide +kernel
theorem tw_w76 : lw_tbl[76]? = some (Cond.selects "TreasureWalkModel" ⟨"TreasureWalkModel", "isInRegion", "(II)Z"⟩ ⟨"TreasureWalkModel", "isInRegion", "(II)Z"⟩) := by decide +kernel
theorem tw_w77 : lw_tbl[77]? = some (Cond.selects "TreasureWalkModel" ⟨"TreasureWalkModel", "isLeft", "(I)Z"⟩ ⟨"TreasureWalkModel", "isLeft", "(I)Z"⟩) := by decide +kernel
theorem tw_w78 : lw_tbl[78]? = some (Cond.selects "TreasureWalkModel" ⟨"TreasureWalkModel", "layParts", "()I"⟩ ⟨"TreasureWalkModel", "layParts", "()I"⟩) := by decide +kernel
theorem tw_w79 : lw_tbl[79]? = some (Cond.selects "TreasureWalkModel" ⟨"TreasureWalkModel", "noCell", "(II)Z"⟩ ⟨"TreasureWalkModel", "noCell", "(II)Z"⟩) := by decide +kernel
theorem tw_w80 : lw_tbl[80]? = some (Cond.selects "TreasureWalkModel" ⟨"TreasureWalkModel", "toldCell", "(I)I"⟩ ⟨"TreasureWalkModel", "toldCell", "(I)I"⟩) := by decide +kernel
theorem tw_w81 : lw_tbl[81]? = some (Cond.selects "TreasureWalkModel" ⟨"TreasureWalkModel", "noClue", "(I)Z"⟩ ⟨"TreasureWalkModel", "noClue", "(I)Z"⟩) := by decide +kernel
theorem tw_w82 : lw_tbl[82]? = some (Cond.selects "TreasureWalkModel" ⟨"TreasureWalkModel", "reachedBy", "(II)I"⟩ ⟨"TreasureWalkModel", "reachedBy", "(II)I"⟩) := by decide +kernel
theorem tw_w83 : lw_tbl[83]? = some (Cond.selects "TreasureWalkModel" ⟨"TreasureWalkModel", "layLeads", "(II)V"⟩ ⟨"TreasureWalkModel", "layLeads", "(II)V"⟩) := by decide +kernel
theorem tw_w84 : lw_tbl[84]? = some (Cond.selects "TreasureWalkModel" ⟨"TreasureWalkModel", "endOf", "(III)I"⟩ ⟨"TreasureWalkModel", "endOf", "(III)I"⟩) := by decide +kernel
theorem tw_w85 : lw_tbl[85]? = some (Cond.selects "TreasureWalkModel" ⟨"TreasureWalkModel", "layFar", "(I)V"⟩ ⟨"TreasureWalkModel", "layFar", "(I)V"⟩) := by decide +kernel
theorem tw_w86 : lw_tbl[86]? = some (Cond.selects "TreasureWalkModel" ⟨"TreasureWalkModel", "shortest", "(I)I"⟩ ⟨"TreasureWalkModel", "shortest", "(I)I"⟩) := by decide +kernel
theorem tw_w88 : lw_tbl[88]? = some ((Jvm.Cond.initialized "TreasureWalk")) := by decide +kernel
theorem tw_w89 : lw_tbl[89]? = some ((Jvm.Cond.initialized "TreasureWalk$Data")) := by decide +kernel
theorem tw_w90 : lw_tbl[90]? = some ((Jvm.Cond.initialized "TreasureWalk$Cells")) := by decide +kernel
theorem tw_w91 : lw_tbl[91]? = some ((Jvm.Cond.initialized "TreasureWalk$Row")) := by decide +kernel
theorem tw_w92 : lw_tbl[92]? = some ((Jvm.Cond.initialized "TreasureWalk$Clues")) := by decide +kernel
theorem tw_w93 : lw_tbl[93]? = some ((Jvm.Cond.initialized "java/util/Arrays")) := by decide +kernel
theorem tw_w94 : lw_tbl[94]? = some ((Jvm.Cond.initialized "TreasureWalk$Trails")) := by decide +kernel
theorem tw_w95 : lw_tbl[95]? = some ((Jvm.Cond.initialized "TreasureWalk$Layers")) := by decide +kernel
theorem tw_w96 : lw_tbl[96]? = some ((Jvm.Cond.initialized "TreasureWalk$Survey")) := by decide +kernel
theorem tw_w97 : lw_tbl[97]? = some ((Jvm.Cond.initialized "TreasureWalk$Flood")) := by decide +kernel
theorem tw_w98 : lw_tbl[98]? = some ((Jvm.Cond.initialized "TreasureWalk$History")) := by decide +kernel
theorem tw_w99 : lw_tbl[99]? = some ((Jvm.Cond.initialized "TreasureWalk$Reader")) := by decide +kernel
theorem tw_w100 : lw_tbl[100]? = some ((Jvm.Cond.initialized "TreasureWalk$Tours")) := by decide +kernel
theorem tw_w101 : lw_tbl[101]? = some ((Jvm.Cond.initialized "TreasureWalkModel")) := by decide +kernel
theorem tw_w111 : lw_tbl[111]? = some ((Jvm.Cond.initialized "java/lang/Integer")) := by decide +kernel
theorem tw_w135 : lw_tbl[135]? = some ((Jvm.Cond.fieldLink "TreasureWalk$Cells" (9 : Nat) "TreasureWalk$Cells" "rows" "[I")) := by decide +kernel
theorem tw_w146 : lw_tbl[146]? = some ((Jvm.Cond.fieldLink "TreasureWalk$Row" (7 : Nat) "TreasureWalk$Row" "numbers" "[I")) := by decide +kernel
theorem tw_w158 : lw_tbl[158]? = some ((Jvm.Cond.fieldLink "TreasureWalk$Clues" (44 : Nat) "TreasureWalk$Clues" "count" "I")) := by decide +kernel
theorem tw_w159 : lw_tbl[159]? = some ((Jvm.Cond.fieldLinkNest "TreasureWalk$Survey" (39 : Nat) "TreasureWalk$Clues" "count" "I" "TreasureWalk")) := by decide +kernel
theorem tw_w160 : lw_tbl[160]? = some ((Jvm.Cond.fieldLinkNest "TreasureWalk$Trails" (53 : Nat) "TreasureWalk$Clues" "count" "I" "TreasureWalk")) := by decide +kernel
theorem tw_w161 : lw_tbl[161]? = some ((Jvm.Cond.fieldLinkNest "TreasureWalk" (107 : Nat) "TreasureWalk$Clues" "count" "I" "TreasureWalk")) := by decide +kernel
theorem tw_w162 : lw_tbl[162]? = some ((Jvm.Cond.fieldLinkNest "TreasureWalk$Reader" (170 : Nat) "TreasureWalk$Clues" "count" "I" "TreasureWalk")) := by decide +kernel
theorem tw_w163 : lw_tbl[163]? = some ((Jvm.Cond.fieldLink "TreasureWalk$Clues" (14 : Nat) "TreasureWalk$Clues" "used" "LTreasureWalk$Row;")) := by decide +kernel
theorem tw_w164 : lw_tbl[164]? = some ((Jvm.Cond.fieldLinkNest "TreasureWalk$Reader" (186 : Nat) "TreasureWalk$Clues" "used" "LTreasureWalk$Row;" "TreasureWalk")) := by decide +kernel
theorem tw_w165 : lw_tbl[165]? = some ((Jvm.Cond.fieldLinkNest "TreasureWalk" (237 : Nat) "TreasureWalk$Clues" "used" "LTreasureWalk$Row;" "TreasureWalk")) := by decide +kernel
theorem tw_w166 : lw_tbl[166]? = some ((Jvm.Cond.fieldLink "TreasureWalk$Clues" (20 : Nat) "TreasureWalk$Clues" "startCounts" "LTreasureWalk$Row;")) := by decide +kernel
theorem tw_w167 : lw_tbl[167]? = some ((Jvm.Cond.fieldLinkNest "TreasureWalk$Trails" (96 : Nat) "TreasureWalk$Clues" "startCounts" "LTreasureWalk$Row;" "TreasureWalk")) := by decide +kernel
theorem tw_w168 : lw_tbl[168]? = some ((Jvm.Cond.fieldLink "TreasureWalk$Clues" (23 : Nat) "TreasureWalk$Clues" "starts" "LTreasureWalk$Row;")) := by decide +kernel
theorem tw_w169 : lw_tbl[169]? = some ((Jvm.Cond.fieldLink "TreasureWalk$Clues" (26 : Nat) "TreasureWalk$Clues" "legCounts" "LTreasureWalk$Row;")) := by decide +kernel
theorem tw_w170 : lw_tbl[170]? = some ((Jvm.Cond.fieldLinkNest "TreasureWalk$Trails" (109 : Nat) "TreasureWalk$Clues" "legCounts" "LTreasureWalk$Row;" "TreasureWalk")) := by decide +kernel
theorem tw_w171 : lw_tbl[171]? = some ((Jvm.Cond.fieldLinkNest "TreasureWalk" (175 : Nat) "TreasureWalk$Clues" "legCounts" "LTreasureWalk$Row;" "TreasureWalk")) := by decide +kernel
theorem tw_w172 : lw_tbl[172]? = some ((Jvm.Cond.fieldLinkNest "TreasureWalk$Reader" (203 : Nat) "TreasureWalk$Clues" "legCounts" "LTreasureWalk$Row;" "TreasureWalk")) := by decide +kernel
theorem tw_w173 : lw_tbl[173]? = some ((Jvm.Cond.fieldLink "TreasureWalk$Clues" (29 : Nat) "TreasureWalk$Clues" "kinds" "LTreasureWalk$Row;")) := by decide +kernel
theorem tw_w174 : lw_tbl[174]? = some ((Jvm.Cond.fieldLinkNest "TreasureWalk$Trails" (128 : Nat) "TreasureWalk$Clues" "kinds" "LTreasureWalk$Row;" "TreasureWalk")) := by decide +kernel
theorem tw_w175 : lw_tbl[175]? = some ((Jvm.Cond.fieldLinkNest "TreasureWalk$Reader" (211 : Nat) "TreasureWalk$Clues" "kinds" "LTreasureWalk$Row;" "TreasureWalk")) := by decide +kernel
theorem tw_w176 : lw_tbl[176]? = some ((Jvm.Cond.fieldLink "TreasureWalk$Clues" (32 : Nat) "TreasureWalk$Clues" "bearings" "LTreasureWalk$Row;")) := by decide +kernel
theorem tw_w177 : lw_tbl[177]? = some ((Jvm.Cond.fieldLinkNest "TreasureWalk$Trails" (122 : Nat) "TreasureWalk$Clues" "bearings" "LTreasureWalk$Row;" "TreasureWalk")) := by decide +kernel
theorem tw_w178 : lw_tbl[178]? = some ((Jvm.Cond.fieldLinkNest "TreasureWalk$Reader" (214 : Nat) "TreasureWalk$Clues" "bearings" "LTreasureWalk$Row;" "TreasureWalk")) := by decide +kernel
theorem tw_w179 : lw_tbl[179]? = some ((Jvm.Cond.fieldLink "TreasureWalk$Clues" (35 : Nat) "TreasureWalk$Clues" "fewestPaces" "LTreasureWalk$Row;")) := by decide +kernel
theorem tw_w180 : lw_tbl[180]? = some ((Jvm.Cond.fieldLinkNest "TreasureWalk$Trails" (131 : Nat) "TreasureWalk$Clues" "fewestPaces" "LTreasureWalk$Row;" "TreasureWalk")) := by decide +kernel
theorem tw_w181 : lw_tbl[181]? = some ((Jvm.Cond.fieldLinkNest "TreasureWalk$Reader" (220 : Nat) "TreasureWalk$Clues" "fewestPaces" "LTreasureWalk$Row;" "TreasureWalk")) := by decide +kernel
theorem tw_w182 : lw_tbl[182]? = some ((Jvm.Cond.fieldLink "TreasureWalk$Clues" (38 : Nat) "TreasureWalk$Clues" "mostPaces" "LTreasureWalk$Row;")) := by decide +kernel
theorem tw_w183 : lw_tbl[183]? = some ((Jvm.Cond.fieldLinkNest "TreasureWalk$Trails" (116 : Nat) "TreasureWalk$Clues" "mostPaces" "LTreasureWalk$Row;" "TreasureWalk")) := by decide +kernel
theorem tw_w184 : lw_tbl[184]? = some ((Jvm.Cond.fieldLinkNest "TreasureWalk$Reader" (228 : Nat) "TreasureWalk$Clues" "mostPaces" "LTreasureWalk$Row;" "TreasureWalk")) := by decide +kernel
theorem tw_w185 : lw_tbl[185]? = some ((Jvm.Cond.fieldLink "TreasureWalk$Clues" (41 : Nat) "TreasureWalk$Clues" "goals" "LTreasureWalk$Row;")) := by decide +kernel
theorem tw_w186 : lw_tbl[186]? = some ((Jvm.Cond.fieldLinkNest "TreasureWalk$Trails" (134 : Nat) "TreasureWalk$Clues" "goals" "LTreasureWalk$Row;" "TreasureWalk")) := by decide +kernel
theorem tw_w187 : lw_tbl[187]? = some ((Jvm.Cond.fieldLinkNest "TreasureWalk$Reader" (217 : Nat) "TreasureWalk$Clues" "goals" "LTreasureWalk$Row;" "TreasureWalk")) := by decide +kernel
theorem tw_w209 : lw_tbl[209]? = some ((Jvm.Cond.fieldLink "TreasureWalk$Data" (46 : Nat) "TreasureWalk$Data" "width" "I")) := by decide +kernel
theorem tw_w210 : lw_tbl[210]? = some ((Jvm.Cond.fieldLinkNest "TreasureWalk" (112 : Nat) "TreasureWalk$Data" "width" "I" "TreasureWalk")) := by decide +kernel
theorem tw_w211 : lw_tbl[211]? = some ((Jvm.Cond.fieldLinkNest "TreasureWalk$Reader" (231 : Nat) "TreasureWalk$Data" "width" "I" "TreasureWalk")) := by decide +kernel
theorem tw_w212 : lw_tbl[212]? = some ((Jvm.Cond.fieldLink "TreasureWalk$Data" (50 : Nat) "TreasureWalk$Data" "height" "I")) := by decide +kernel
theorem tw_w213 : lw_tbl[213]? = some ((Jvm.Cond.fieldLinkNest "TreasureWalk" (115 : Nat) "TreasureWalk$Data" "height" "I" "TreasureWalk")) := by decide +kernel
theorem tw_w214 : lw_tbl[214]? = some ((Jvm.Cond.fieldLinkNest "TreasureWalk$Reader" (234 : Nat) "TreasureWalk$Data" "height" "I" "TreasureWalk")) := by decide +kernel
theorem tw_w215 : lw_tbl[215]? = some ((Jvm.Cond.fieldLink "TreasureWalk$Data" (12 : Nat) "TreasureWalk$Data" "land" "LTreasureWalk$Cells;")) := by decide +kernel
theorem tw_w216 : lw_tbl[216]? = some ((Jvm.Cond.fieldLinkNest "TreasureWalk$Survey" (58 : Nat) "TreasureWalk$Data" "land" "LTreasureWalk$Cells;" "TreasureWalk")) := by decide +kernel
theorem tw_w217 : lw_tbl[217]? = some ((Jvm.Cond.fieldLinkNest "TreasureWalk$Reader" (93 : Nat) "TreasureWalk$Data" "land" "LTreasureWalk$Cells;" "TreasureWalk")) := by decide +kernel
theorem tw_w218 : lw_tbl[218]? = some ((Jvm.Cond.fieldLinkNest "TreasureWalk$Trails" (86 : Nat) "TreasureWalk$Data" "land" "LTreasureWalk$Cells;" "TreasureWalk")) := by decide +kernel
theorem tw_w219 : lw_tbl[219]? = some ((Jvm.Cond.fieldLinkNest "TreasureWalk" (160 : Nat) "TreasureWalk$Data" "land" "LTreasureWalk$Cells;" "TreasureWalk")) := by decide +kernel
theorem tw_w220 : lw_tbl[220]? = some ((Jvm.Cond.fieldLink "TreasureWalk$Data" (18 : Nat) "TreasureWalk$Data" "dug" "LTreasureWalk$Cells;")) := by decide +kernel
theorem tw_w221 : lw_tbl[221]? = some ((Jvm.Cond.fieldLinkNest "TreasureWalk$Survey" (72 : Nat) "TreasureWalk$Data" "dug" "LTreasureWalk$Cells;" "TreasureWalk")) := by decide +kernel
theorem tw_w222 : lw_tbl[222]? = some ((Jvm.Cond.fieldLinkNest "TreasureWalk" (139 : Nat) "TreasureWalk$Data" "dug" "LTreasureWalk$Cells;" "TreasureWalk")) := by decide +kernel
theorem tw_w223 : lw_tbl[223]? = some ((Jvm.Cond.fieldLink "TreasureWalk$Data" (26 : Nat) "TreasureWalk$Data" "marks" "LTreasureWalk$Row;")) := by decide +kernel
theorem tw_w224 : lw_tbl[224]? = some ((Jvm.Cond.fieldLinkNest "TreasureWalk$Reader" (157 : Nat) "TreasureWalk$Data" "marks" "LTreasureWalk$Row;" "TreasureWalk")) := by decide +kernel
theorem tw_w225 : lw_tbl[225]? = some ((Jvm.Cond.fieldLinkNest "TreasureWalk$Trails" (137 : Nat) "TreasureWalk$Data" "marks" "LTreasureWalk$Row;" "TreasureWalk")) := by decide +kernel
theorem tw_w226 : lw_tbl[226]? = some ((Jvm.Cond.fieldLinkNest "TreasureWalk$Trails" (37 : Nat) "TreasureWalk$Data" "bendCount" "I" "TreasureWalk")) := by decide +kernel
theorem tw_w227 : lw_tbl[227]? = some ((Jvm.Cond.fieldLink "TreasureWalk$Data" (66 : Nat) "TreasureWalk$Data" "bendCount" "I")) := by decide +kernel
theorem tw_w228 : lw_tbl[228]? = some ((Jvm.Cond.fieldLinkNest "TreasureWalk" (122 : Nat) "TreasureWalk$Data" "bendCount" "I" "TreasureWalk")) := by decide +kernel
theorem tw_w229 : lw_tbl[229]? = some ((Jvm.Cond.fieldLinkNest "TreasureWalk$Reader" (143 : Nat) "TreasureWalk$Data" "bendCount" "I" "TreasureWalk")) := by decide +kernel
theorem tw_w230 : lw_tbl[230]? = some ((Jvm.Cond.fieldLink "TreasureWalk$Data" (30 : Nat) "TreasureWalk$Data" "bendFirsts" "LTreasureWalk$Row;")) := by decide +kernel
theorem tw_w231 : lw_tbl[231]? = some ((Jvm.Cond.fieldLinkNest "TreasureWalk$Trails" (61 : Nat) "TreasureWalk$Data" "bendFirsts" "LTreasureWalk$Row;" "TreasureWalk")) := by decide +kernel
theorem tw_w232 : lw_tbl[232]? = some ((Jvm.Cond.fieldLink "TreasureWalk$Data" (33 : Nat) "TreasureWalk$Data" "bendLasts" "LTreasureWalk$Row;")) := by decide +kernel
theorem tw_w233 : lw_tbl[233]? = some ((Jvm.Cond.fieldLinkNest "TreasureWalk$Trails" (68 : Nat) "TreasureWalk$Data" "bendLasts" "LTreasureWalk$Row;" "TreasureWalk")) := by decide +kernel
theorem tw_w234 : lw_tbl[234]? = some ((Jvm.Cond.fieldLink "TreasureWalk$Data" (36 : Nat) "TreasureWalk$Data" "bendTurns" "LTreasureWalk$Row;")) := by decide +kernel
theorem tw_w235 : lw_tbl[235]? = some ((Jvm.Cond.fieldLinkNest "TreasureWalk$Trails" (75 : Nat) "TreasureWalk$Data" "bendTurns" "LTreasureWalk$Row;" "TreasureWalk")) := by decide +kernel
theorem tw_w236 : lw_tbl[236]? = some ((Jvm.Cond.fieldLinkNest "TreasureWalk" (252 : Nat) "TreasureWalk$Data" "bendTurns" "LTreasureWalk$Row;" "TreasureWalk")) := by decide +kernel
theorem tw_w237 : lw_tbl[237]? = some ((Jvm.Cond.fieldLink "TreasureWalk$Data" (42 : Nat) "TreasureWalk$Data" "clues" "LTreasureWalk$Clues;")) := by decide +kernel
theorem tw_w238 : lw_tbl[238]? = some ((Jvm.Cond.fieldLinkNest "TreasureWalk$Survey" (33 : Nat) "TreasureWalk$Data" "clues" "LTreasureWalk$Clues;" "TreasureWalk")) := by decide +kernel
theorem tw_w239 : lw_tbl[239]? = some ((Jvm.Cond.fieldLinkNest "TreasureWalk$Trails" (49 : Nat) "TreasureWalk$Data" "clues" "LTreasureWalk$Clues;" "TreasureWalk")) := by decide +kernel
theorem tw_w240 : lw_tbl[240]? = some ((Jvm.Cond.fieldLinkNest "TreasureWalk" (103 : Nat) "TreasureWalk$Data" "clues" "LTreasureWalk$Clues;" "TreasureWalk")) := by decide +kernel
theorem tw_w241 : lw_tbl[241]? = some ((Jvm.Cond.fieldLinkNest "TreasureWalk$Reader" (166 : Nat) "TreasureWalk$Data" "clues" "LTreasureWalk$Clues;" "TreasureWalk")) := by decide +kernel
theorem tw_w242 : lw_tbl[242]? = some ((Jvm.Cond.fieldLinkNest "TreasureWalk" (20 : Nat) "TreasureWalk$Data" "team" "I" "TreasureWalk")) := by decide +kernel
theorem tw_w243 : lw_tbl[243]? = some ((Jvm.Cond.fieldLinkNest "TreasureWalk$Tours" (64 : Nat) "TreasureWalk$Data" "team" "I" "TreasureWalk")) := by decide +kernel
theorem tw_w244 : lw_tbl[244]? = some ((Jvm.Cond.fieldLink "TreasureWalk$Data" (70 : Nat) "TreasureWalk$Data" "team" "I")) := by decide +kernel
theorem tw_w245 : lw_tbl[245]? = some ((Jvm.Cond.fieldLinkNest "TreasureWalk$Reader" (91 : Nat) "TreasureWalk$Data" "team" "I" "TreasureWalk")) := by decide +kernel
theorem tw_w246 : lw_tbl[246]? = some ((Jvm.Cond.fieldLinkNest "TreasureWalk$Survey" (98 : Nat) "TreasureWalk$Data" "team" "I" "TreasureWalk")) := by decide +kernel
theorem tw_w247 : lw_tbl[247]? = some ((Jvm.Cond.fieldLink "TreasureWalk$Data" (73 : Nat) "TreasureWalk$Data" "paces" "I")) := by decide +kernel
theorem tw_w248 : lw_tbl[248]? = some ((Jvm.Cond.fieldLinkNest "TreasureWalk" (149 : Nat) "TreasureWalk$Data" "paces" "I" "TreasureWalk")) := by decide +kernel
theorem tw_w249 : lw_tbl[249]? = some ((Jvm.Cond.fieldLink "TreasureWalk$Data" (76 : Nat) "TreasureWalk$Data" "chest" "I")) := by decide +kernel
theorem tw_w250 : lw_tbl[250]? = some ((Jvm.Cond.fieldLinkNest "TreasureWalk" (152 : Nat) "TreasureWalk$Data" "chest" "I" "TreasureWalk")) := by decide +kernel
theorem tw_w251 : lw_tbl[251]? = some ((Jvm.Cond.fieldLink "TreasureWalk$Data" (79 : Nat) "TreasureWalk$Data" "chestSpot" "I")) := by decide +kernel
theorem tw_w252 : lw_tbl[252]? = some ((Jvm.Cond.fieldLinkNest "TreasureWalk" (231 : Nat) "TreasureWalk$Data" "chestSpot" "I" "TreasureWalk")) := by decide +kernel
theorem tw_w283 : lw_tbl[283]? = some ((Jvm.Cond.instanceMethod ({ cls := "TreasureWalk$Data", name := "begin", desc := "(II)V" } : Jvm.MethodName))) := by decide +kernel
theorem tw_w284 : lw_tbl[284]? = some ((Jvm.Cond.selects "TreasureWalk$Data" ({ cls := "TreasureWalk$Data", name := "begin", desc := "(II)V" } : Jvm.MethodName) ({ cls := "TreasureWalk$Data", name := "begin", desc := "(II)V" } : Jvm.MethodName))) := by decide +kernel
theorem tw_w285 : lw_tbl[285]? = some ((Jvm.Cond.code ({ cls := "TreasureWalk$Data", name := "begin", desc := "(II)V" } : Jvm.MethodName) prog_4_method_2_code (5 : Nat) (Option.none : Option Jvm.ClassFile.FieldType))) := by decide +kernel
theorem tw_w286 : lw_tbl[286]? = some ((Jvm.Cond.methodLink "TreasureWalk$Data" (53 : Nat) ({ cls := "TreasureWalk$Cells", name := "clear", desc := "()V" } : Jvm.MethodName))) := by decide +kernel
theorem tw_w287 : lw_tbl[287]? = some ((Jvm.Cond.instanceMethod ({ cls := "TreasureWalk$Cells", name := "clear", desc := "()V" } : Jvm.MethodName))) := by decide +kernel
theorem tw_w288 : lw_tbl[288]? = some ((Jvm.Cond.selects "TreasureWalk$Cells" ({ cls := "TreasureWalk$Cells", name := "clear", desc := "()V" } : Jvm.MethodName) ({ cls := "TreasureWalk$Cells", name := "clear", desc := "()V" } : Jvm.MethodName))) := by decide +kernel
theorem tw_w289 : lw_tbl[289]? = some ((Jvm.Cond.code ({ cls := "TreasureWalk$Cells", name := "clear", desc := "()V" } : Jvm.MethodName) prog_2_method_5_code (1 : Nat) (Option.none : Option Jvm.ClassFile.FieldType))) := by decide +kernel
theorem tw_w290 : lw_tbl[290]? = some ((Jvm.Cond.methodLink "TreasureWalk$Cells" (15 : Nat) ({ cls := "java/util/Arrays", name := "fill", desc := "([II)V" } : Jvm.MethodName))) := by decide +kernel
theorem tw_w291 : lw_tbl[291]? = some ((Jvm.Cond.static ({ cls := "java/util/Arrays", name := "fill", desc := "([II)V" } : Jvm.MethodName))) := by decide +kernel
theorem tw_w292 : lw_tbl[292]? = some ((Jvm.Cond.code ({ cls := "java/util/Arrays", name := "fill", desc := "([II)V" } : Jvm.MethodName) prog_31_method_103_code (4 : Nat) (Option.none : Option Jvm.ClassFile.FieldType))) := by decide +kernel
theorem tw_w293 : lw_tbl[293]? = some ((Jvm.Cond.methodLinkNest "TreasureWalk$Data" (56 : Nat) ({ cls := "TreasureWalk", name := "spotAt", desc := "(II)I" } : Jvm.MethodName) "TreasureWalk")) := by decide +kernel
theorem tw_w294 : lw_tbl[294]? = some ((Jvm.Cond.static ({ cls := "TreasureWalk", name := "spotAt", desc := "(II)I" } : Jvm.MethodName))) := by decide +kernel
theorem tw_w295 : lw_tbl[295]? = some ((Jvm.Cond.code ({ cls := "TreasureWalk", name := "spotAt", desc := "(II)I" } : Jvm.MethodName) prog_1_method_28_code (2 : Nat) (Option.some Jvm.ClassFile.FieldType.int))) := by decide +kernel
theorem tw_w296 : lw_tbl[296]? = some ((Jvm.Cond.methodLink "TreasureWalk$Data" (60 : Nat) ({ cls := "TreasureWalk$Cells", name := "add", desc := "(I)V" } : Jvm.MethodName))) := by decide +kernel
theorem tw_w297 : lw_tbl[297]? = some ((Jvm.Cond.instanceMethod ({ cls := "TreasureWalk$Cells", name := "add", desc := "(I)V" } : Jvm.MethodName))) := by decide +kernel
theorem tw_w298 : lw_tbl[298]? = some ((Jvm.Cond.selects "TreasureWalk$Cells" ({ cls := "TreasureWalk$Cells", name := "add", desc := "(I)V" } : Jvm.MethodName) ({ cls := "TreasureWalk$Cells", name := "add", desc := "(I)V" } : Jvm.MethodName))) := by decide +kernel
theorem tw_w299 : lw_tbl[299]? = some ((Jvm.Cond.code ({ cls := "TreasureWalk$Cells", name := "add", desc := "(I)V" } : Jvm.MethodName) prog_2_method_3_code (3 : Nat) (Option.none : Option Jvm.ClassFile.FieldType))) := by decide +kernel
theorem tw_w300 : lw_tbl[300]? = some ((Jvm.Cond.methodLink "TreasureWalk$Data" (63 : Nat) ({ cls := "TreasureWalk$Row", name := "fill", desc := "(I)V" } : Jvm.MethodName))) := by decide +kernel
theorem tw_w301 : lw_tbl[301]? = some ((Jvm.Cond.instanceMethod ({ cls := "TreasureWalk$Row", name := "fill", desc := "(I)V" } : Jvm.MethodName))) := by decide +kernel
theorem tw_w302 : lw_tbl[302]? = some ((Jvm.Cond.selects "TreasureWalk$Row" ({ cls := "TreasureWalk$Row", name := "fill", desc := "(I)V" } : Jvm.MethodName) ({ cls := "TreasureWalk$Row", name := "fill", desc := "(I)V" } : Jvm.MethodName))) := by decide +kernel
theorem tw_w303 : lw_tbl[303]? = some ((Jvm.Cond.code ({ cls := "TreasureWalk$Row", name := "fill", desc := "(I)V" } : Jvm.MethodName) prog_9_method_4_code (2 : Nat) (Option.none : Option Jvm.ClassFile.FieldType))) := by decide +kernel
theorem tw_w304 : lw_tbl[304]? = some ((Jvm.Cond.methodLink "TreasureWalk$Row" (13 : Nat) ({ cls := "java/util/Arrays", name := "fill", desc := "([II)V" } : Jvm.MethodName))) := by decide +kernel
theorem tw_w305 : lw_tbl[305]? = some ((Jvm.Cond.methodLink "TreasureWalk$Data" (69 : Nat) ({ cls := "TreasureWalk$Clues", name := "clear", desc := "()V" } : Jvm.MethodName))) := by decide +kernel
theorem tw_w306 : lw_tbl[306]? = some ((Jvm.Cond.instanceMethod ({ cls := "TreasureWalk$Clues", name := "clear", desc := "()V" } : Jvm.MethodName))) := by decide +kernel
theorem tw_w307 : lw_tbl[307]? = some ((Jvm.Cond.selects "TreasureWalk$Clues" ({ cls := "TreasureWalk$Clues", name := "clear", desc := "()V" } : Jvm.MethodName) ({ cls := "TreasureWalk$Clues", name := "clear", desc := "()V" } : Jvm.MethodName))) := by decide +kernel
theorem tw_w308 : lw_tbl[308]? = some ((Jvm.Cond.code ({ cls := "TreasureWalk$Clues", name := "clear", desc := "()V" } : Jvm.MethodName) prog_3_method_2_code (1 : Nat) (Option.none : Option Jvm.ClassFile.FieldType))) := by decide +kernel
theorem tw_w309 : lw_tbl[309]? = some ((Jvm.Cond.methodLink "TreasureWalk$Clues" (48 : Nat) ({ cls := "TreasureWalk$Row", name := "fill", desc := "(I)V" } : Jvm.MethodName))) := by decide +kernel
theorem tw_w310 : lw_tbl[310]? = some ((Jvm.Cond.methodLink "TreasureWalk" (16 : Nat) ({ cls := "TreasureWalk", name := "spotAt", desc := "(II)I" } : Jvm.MethodName))) := by decide +kernel
theorem tw_w328 : lw_tbl[328]? = some ((Jvm.Cond.fieldLink "TreasureWalk$Layers" (16 : Nat) "TreasureWalk$Layers" "sets" "[LTreasureWalk$Cells;")) := by decide +kernel
theorem tw_w329 : lw_tbl[329]? = some ((Jvm.Cond.fieldLink "TreasureWalk$Layers" (10 : Nat) "TreasureWalk$Layers" "outside" "LTreasureWalk$Cells;")) := by decide +kernel
theorem tw_w335 : lw_tbl[335]? = some ((Jvm.Cond.fieldLink "TreasureWalk$Trails" (30 : Nat) "TreasureWalk$Trails" "data" "LTreasureWalk$Data;")) := by decide +kernel
theorem tw_w336 : lw_tbl[336]? = some ((Jvm.Cond.fieldLink "TreasureWalk$Trails" (14 : Nat) "TreasureWalk$Trails" "twists" "LTreasureWalk$Row;")) := by decide +kernel
theorem tw_w337 : lw_tbl[337]? = some ((Jvm.Cond.fieldLink "TreasureWalk$Trails" (23 : Nat) "TreasureWalk$Trails" "layers" "LTreasureWalk$Layers;")) := by decide +kernel
theorem tw_w338 : lw_tbl[338]? = some ((Jvm.Cond.fieldLink "TreasureWalk$Trails" (27 : Nat) "TreasureWalk$Trails" "ways" "LTreasureWalk$Layers;")) := by decide +kernel
theorem tw_w362 : lw_tbl[362]? = some ((Jvm.Cond.fieldLink "TreasureWalk$Flood" (14 : Nat) "TreasureWalk$Flood" "distances" "LTreasureWalk$Row;")) := by decide +kernel
theorem tw_w363 : lw_tbl[363]? = some ((Jvm.Cond.fieldLinkNest "TreasureWalk$Survey" (84 : Nat) "TreasureWalk$Flood" "distances" "LTreasureWalk$Row;" "TreasureWalk")) := by decide +kernel
theorem tw_w364 : lw_tbl[364]? = some ((Jvm.Cond.fieldLink "TreasureWalk$Flood" (20 : Nat) "TreasureWalk$Flood" "queue" "LTreasureWalk$Row;")) := by decide +kernel
theorem tw_w372 : lw_tbl[372]? = some ((Jvm.Cond.fieldLink "TreasureWalk$Survey" (25 : Nat) "TreasureWalk$Survey" "data" "LTreasureWalk$Data;")) := by decide +kernel
theorem tw_w373 : lw_tbl[373]? = some ((Jvm.Cond.fieldLink "TreasureWalk$Survey" (29 : Nat) "TreasureWalk$Survey" "trails" "LTreasureWalk$Trails;")) := by decide +kernel
theorem tw_w374 : lw_tbl[374]? = some ((Jvm.Cond.fieldLink "TreasureWalk$Survey" (12 : Nat) "TreasureWalk$Survey" "flood" "LTreasureWalk$Flood;")) := by decide +kernel
theorem tw_w375 : lw_tbl[375]? = some ((Jvm.Cond.fieldLink "TreasureWalk$Survey" (21 : Nat) "TreasureWalk$Survey" "chosen" "LTreasureWalk$Cells;")) := by decide +kernel
theorem tw_w394 : lw_tbl[394]? = some ((Jvm.Cond.fieldLink "TreasureWalk$History" (11 : Nat) "TreasureWalk$History" "kept" "[LTreasureWalk$Data;")) := by decide +kernel
theorem tw_w395 : lw_tbl[395]? = some ((Jvm.Cond.fieldLink "TreasureWalk$History" (18 : Nat) "TreasureWalk$History" "next" "I")) := by decide +kernel
theorem tw_w396 : lw_tbl[396]? = some ((Jvm.Cond.fieldLink "TreasureWalk$History" (30 : Nat) "TreasureWalk$History" "count" "I")) := by decide +kernel
theorem tw_w397 : lw_tbl[397]? = some ((Jvm.Cond.fieldLinkNest "TreasureWalk" (259 : Nat) "TreasureWalk$History" "count" "I" "TreasureWalk")) := by decide +kernel
theorem tw_w415 : lw_tbl[415]? = some ((Jvm.Cond.fieldLink "TreasureWalk$Reader" (14 : Nat) "TreasureWalk$Reader" "text" "LTreasureWalk$Row;")) := by decide +kernel
theorem tw_w416 : lw_tbl[416]? = some ((Jvm.Cond.fieldLinkNest "TreasureWalk" (72 : Nat) "TreasureWalk$Reader" "textLength" "I" "TreasureWalk")) := by decide +kernel
theorem tw_w417 : lw_tbl[417]? = some ((Jvm.Cond.fieldLink "TreasureWalk$Reader" (27 : Nat) "TreasureWalk$Reader" "textLength" "I")) := by decide +kernel
theorem tw_w418 : lw_tbl[418]? = some ((Jvm.Cond.fieldLink "TreasureWalk$Reader" (23 : Nat) "TreasureWalk$Reader" "draft" "LTreasureWalk$Data;")) := by decide +kernel
theorem tw_w419 : lw_tbl[419]? = some ((Jvm.Cond.fieldLinkNest "TreasureWalk" (94 : Nat) "TreasureWalk$Reader" "draft" "LTreasureWalk$Data;" "TreasureWalk")) := by decide +kernel
theorem tw_w420 : lw_tbl[420]? = some ((Jvm.Cond.fieldLink "TreasureWalk$Reader" (35 : Nat) "TreasureWalk$Reader" "length" "I")) := by decide +kernel
theorem tw_w421 : lw_tbl[421]? = some ((Jvm.Cond.fieldLink "TreasureWalk$Reader" (85 : Nat) "TreasureWalk$Reader" "start" "I")) := by decide +kernel
theorem tw_w422 : lw_tbl[422]? = some ((Jvm.Cond.fieldLink "TreasureWalk$Reader" (38 : Nat) "TreasureWalk$Reader" "end" "I")) := by decide +kernel
theorem tw_w423 : lw_tbl[423]? = some ((Jvm.Cond.fieldLink "TreasureWalk$Reader" (53 : Nat) "TreasureWalk$Reader" "kind" "I")) := by decide +kernel
theorem tw_w424 : lw_tbl[424]? = some ((Jvm.Cond.fieldLink "TreasureWalk$Reader" (41 : Nat) "TreasureWalk$Reader" "error" "I")) := by decide +kernel
theorem tw_w425 : lw_tbl[425]? = some ((Jvm.Cond.fieldLink "TreasureWalk$Reader" (44 : Nat) "TreasureWalk$Reader" "errorAt" "I")) := by decide +kernel
theorem tw_w426 : lw_tbl[426]? = some ((Jvm.Cond.fieldLinkNest "TreasureWalk" (90 : Nat) "TreasureWalk$Reader" "errorAt" "I" "TreasureWalk")) := by decide +kernel
theorem tw_w427 : lw_tbl[427]? = some ((Jvm.Cond.fieldLink "TreasureWalk$Reader" (122 : Nat) "TreasureWalk$Reader" "areaFirst" "I")) := by decide +kernel
theorem tw_w428 : lw_tbl[428]? = some ((Jvm.Cond.fieldLink "TreasureWalk$Reader" (125 : Nat) "TreasureWalk$Reader" "areaLast" "I")) := by decide +kernel
theorem tw_w460 : lw_tbl[460]? = some ((Jvm.Cond.fieldLink "TreasureWalk$Tours" (26 : Nat) "TreasureWalk$Tours" "data" "LTreasureWalk$Data;")) := by decide +kernel
theorem tw_w461 : lw_tbl[461]? = some ((Jvm.Cond.fieldLink "TreasureWalk$Tours" (30 : Nat) "TreasureWalk$Tours" "survey" "LTreasureWalk$Survey;")) := by decide +kernel
theorem tw_w462 : lw_tbl[462]? = some ((Jvm.Cond.fieldLink "TreasureWalk$Tours" (46 : Nat) "TreasureWalk$Tours" "count" "I")) := by decide +kernel
theorem tw_w463 : lw_tbl[463]? = some ((Jvm.Cond.fieldLink "TreasureWalk$Tours" (14 : Nat) "TreasureWalk$Tours" "stops" "LTreasureWalk$Row;")) := by decide +kernel
theorem tw_w464 : lw_tbl[464]? = some ((Jvm.Cond.fieldLink "TreasureWalk$Tours" (20 : Nat) "TreasureWalk$Tours" "hops" "LTreasureWalk$Row;")) := by decide +kernel
theorem tw_w465 : lw_tbl[465]? = some ((Jvm.Cond.fieldLink "TreasureWalk$Tours" (23 : Nat) "TreasureWalk$Tours" "best" "LTreasureWalk$Row;")) := by decide +kernel
theorem tw_w479 : lw_tbl[479]? = some ((Jvm.Cond.fieldLink "TreasureWalk" (34 : Nat) "TreasureWalk" "now" "LTreasureWalk$Data;")) := by decide +kernel
theorem tw_w480 : lw_tbl[480]? = some ((Jvm.Cond.fieldLink "TreasureWalk" (41 : Nat) "TreasureWalk" "history" "LTreasureWalk$History;")) := by decide +kernel
theorem tw_w481 : lw_tbl[481]? = some ((Jvm.Cond.fieldLink "TreasureWalk" (48 : Nat) "TreasureWalk" "reader" "LTreasureWalk$Reader;")) := by decide +kernel
theorem tw_w482 : lw_tbl[482]? = some ((Jvm.Cond.fieldLink "TreasureWalk" (52 : Nat) "TreasureWalk" "trails" "LTreasureWalk$Trails;")) := by decide +kernel
theorem tw_w483 : lw_tbl[483]? = some ((Jvm.Cond.fieldLink "TreasureWalk" (56 : Nat) "TreasureWalk" "survey" "LTreasureWalk$Survey;")) := by decide +kernel
theorem tw_w484 : lw_tbl[484]? = some ((Jvm.Cond.fieldLink "TreasureWalk" (65 : Nat) "TreasureWalk" "tours" "LTreasureWalk$Tours;")) := by decide +kernel
theorem tw_w485 : lw_tbl[485]? = some ((Jvm.Cond.fieldLink "TreasureWalk" (69 : Nat) "TreasureWalk" "errorAt" "I")) := by decide +kernel
theorem tw_w502 : lw_tbl[502]? = some ((Jvm.Cond.instanceMethod ({ cls := "TreasureWalk", name := "append", desc := "(IIIII)I" } : Jvm.MethodName))) := by decide +kernel
theorem tw_w503 : lw_tbl[503]? = some ((Jvm.Cond.selects "TreasureWalk" ({ cls := "TreasureWalk", name := "append", desc := "(IIIII)I" } : Jvm.MethodName) ({ cls := "TreasureWalk", name := "append", desc := "(IIIII)I" } : Jvm.MethodName))) := by decide +kernel
theorem tw_w504 : lw_tbl[504]? = some ((Jvm.Cond.code ({ cls := "TreasureWalk", name := "append", desc := "(IIIII)I" } : Jvm.MethodName) prog_1_method_2_code (6 : Nat) (Option.some Jvm.ClassFile.FieldType.int))) := by decide +kernel
theorem tw_w505 : lw_tbl[505]? = some ((Jvm.Cond.methodLink "TreasureWalk" (75 : Nat) ({ cls := "TreasureWalk$Reader", name := "addBytes", desc := "(I)V" } : Jvm.MethodName))) := by decide +kernel
theorem tw_w506 : lw_tbl[506]? = some ((Jvm.Cond.instanceMethod ({ cls := "TreasureWalk$Reader", name := "addBytes", desc := "(I)V" } : Jvm.MethodName))) := by decide +kernel
theorem tw_w507 : lw_tbl[507]? = some ((Jvm.Cond.selects "TreasureWalk$Reader" ({ cls := "TreasureWalk$Reader", name := "addBytes", desc := "(I)V" } : Jvm.MethodName) ({ cls := "TreasureWalk$Reader", name := "addBytes", desc := "(I)V" } : Jvm.MethodName))) := by decide +kernel
theorem tw_w508 : lw_tbl[508]? = some ((Jvm.Cond.code ({ cls := "TreasureWalk$Reader", name := "addBytes", desc := "(I)V" } : Jvm.MethodName) prog_8_method_2_code (3 : Nat) (Option.none : Option Jvm.ClassFile.FieldType))) := by decide +kernel
theorem tw_w509 : lw_tbl[509]? = some ((Jvm.Cond.methodLink "TreasureWalk$Reader" (31 : Nat) ({ cls := "TreasureWalk$Row", name := "put", desc := "(II)V" } : Jvm.MethodName))) := by decide +kernel
theorem tw_w510 : lw_tbl[510]? = some ((Jvm.Cond.instanceMethod ({ cls := "TreasureWalk$Row", name := "put", desc := "(II)V" } : Jvm.MethodName))) := by decide +kernel
theorem tw_w511 : lw_tbl[511]? = some ((Jvm.Cond.selects "TreasureWalk$Row" ({ cls := "TreasureWalk$Row", name := "put", desc := "(II)V" } : Jvm.MethodName) ({ cls := "TreasureWalk$Row", name := "put", desc := "(II)V" } : Jvm.MethodName))) := by decide +kernel
theorem tw_w512 : lw_tbl[512]? = some ((Jvm.Cond.code ({ cls := "TreasureWalk$Row", name := "put", desc := "(II)V" } : Jvm.MethodName) prog_9_method_3_code (3 : Nat) (Option.none : Option Jvm.ClassFile.FieldType))) := by decide +kernel
theorem tw_w514 : lw_tbl[514]? = some ((Jvm.Cond.instanceMethod ({ cls := "TreasureWalk", name := "errorOffset", desc := "()I" } : Jvm.MethodName))) := by decide +kernel
theorem tw_w515 : lw_tbl[515]? = some ((Jvm.Cond.selects "TreasureWalk" ({ cls := "TreasureWalk", name := "errorOffset", desc := "()I" } : Jvm.MethodName) ({ cls := "TreasureWalk", name := "errorOffset", desc := "()I" } : Jvm.MethodName))) := by decide +kernel
theorem tw_w516 : lw_tbl[516]? = some ((Jvm.Cond.code ({ cls := "TreasureWalk", name := "errorOffset", desc := "()I" } : Jvm.MethodName) prog_1_method_4_code (1 : Nat) (Option.some Jvm.ClassFile.FieldType.int))) := by decide +kernel
theorem tw_w518 : lw_tbl[518]? = some ((Jvm.Cond.instanceMethod ({ cls := "TreasureWalk", name := "nearest", desc := "()I" } : Jvm.MethodName))) := by decide +kernel
theorem tw_w519 : lw_tbl[519]? = some ((Jvm.Cond.selects "TreasureWalk" ({ cls := "TreasureWalk", name := "nearest", desc := "()I" } : Jvm.MethodName) ({ cls := "TreasureWalk", name := "nearest", desc := "()I" } : Jvm.MethodName))) := by decide +kernel
theorem tw_w520 : lw_tbl[520]? = some ((Jvm.Cond.code ({ cls := "TreasureWalk", name := "nearest", desc := "()I" } : Jvm.MethodName) prog_1_method_14_code (1 : Nat) (Option.some Jvm.ClassFile.FieldType.int))) := by decide +kernel
theorem tw_w521 : lw_tbl[521]? = some ((Jvm.Cond.methodLink "TreasureWalk" (218 : Nat) ({ cls := "TreasureWalk$Survey", name := "nearestLeft", desc := "()I" } : Jvm.MethodName))) := by decide +kernel
theorem tw_w522 : lw_tbl[522]? = some ((Jvm.Cond.instanceMethod ({ cls := "TreasureWalk$Survey", name := "nearestLeft", desc := "()I" } : Jvm.MethodName))) := by decide +kernel
theorem tw_w523 : lw_tbl[523]? = some ((Jvm.Cond.selects "TreasureWalk$Survey" ({ cls := "TreasureWalk$Survey", name := "nearestLeft", desc := "()I" } : Jvm.MethodName) ({ cls := "TreasureWalk$Survey", name := "nearestLeft", desc := "()I" } : Jvm.MethodName))) := by decide +kernel
theorem tw_w524 : lw_tbl[524]? = some ((Jvm.Cond.code ({ cls := "TreasureWalk$Survey", name := "nearestLeft", desc := "()I" } : Jvm.MethodName) prog_10_method_8_code (6 : Nat) (Option.some Jvm.ClassFile.FieldType.int))) := by decide +kernel
theorem tw_w525 : lw_tbl[525]? = some ((Jvm.Cond.methodLink "TreasureWalk$Survey" (78 : Nat) ({ cls := "TreasureWalk$Survey", name := "left", desc := "()LTreasureWalk$Cells;" } : Jvm.MethodName))) := by decide +kernel
theorem tw_w526 : lw_tbl[526]? = some ((Jvm.Cond.instanceMethod ({ cls := "TreasureWalk$Survey", name := "left", desc := "()LTreasureWalk$Cells;" } : Jvm.MethodName))) := by decide +kernel
theorem tw_w527 : lw_tbl[527]? = some ((Jvm.Cond.selects "TreasureWalk$Survey" ({ cls := "TreasureWalk$Survey", name := "left", desc := "()LTreasureWalk$Cells;" } : Jvm.MethodName) ({ cls := "TreasureWalk$Survey", name := "left", desc := "()LTreasureWalk$Cells;" } : Jvm.MethodName))) := by decide +kernel
theorem tw_w528 : lw_tbl[528]? = some ((Jvm.Cond.code ({ cls := "TreasureWalk$Survey", name := "left", desc := "()LTreasureWalk$Cells;" } : Jvm.MethodName) prog_10_method_4_code (1 : Nat) (Option.some (Jvm.ClassFile.FieldType.object "TreasureWalk$Cells")))) := by decide +kernel
theorem tw_w529 : lw_tbl[529]? = some ((Jvm.Cond.methodLink "TreasureWalk$Survey" (68 : Nat) ({ cls := "TreasureWalk$Survey", name := "candidates", desc := "()LTreasureWalk$Cells;" } : Jvm.MethodName))) := by decide +kernel
theorem tw_w530 : lw_tbl[530]? = some ((Jvm.Cond.instanceMethod ({ cls := "TreasureWalk$Survey", name := "candidates", desc := "()LTreasureWalk$Cells;" } : Jvm.MethodName))) := by decide +kernel
theorem tw_w531 : lw_tbl[531]? = some ((Jvm.Cond.selects "TreasureWalk$Survey" ({ cls := "TreasureWalk$Survey", name := "candidates", desc := "()LTreasureWalk$Cells;" } : Jvm.MethodName) ({ cls := "TreasureWalk$Survey", name := "candidates", desc := "()LTreasureWalk$Cells;" } : Jvm.MethodName))) := by decide +kernel
theorem tw_w532 : lw_tbl[532]? = some ((Jvm.Cond.code ({ cls := "TreasureWalk$Survey", name := "candidates", desc := "()LTreasureWalk$Cells;" } : Jvm.MethodName) prog_10_method_3_code (2 : Nat) (Option.some (Jvm.ClassFile.FieldType.object "TreasureWalk$Cells")))) := by decide +kernel
theorem tw_w533 : lw_tbl[533]? = some ((Jvm.Cond.methodLink "TreasureWalk$Survey" (61 : Nat) ({ cls := "TreasureWalk$Cells", name := "copyFrom", desc := "(LTreasureWalk$Cells;)V" } : Jvm.MethodName))) := by decide +kernel
theorem tw_w534 : lw_tbl[534]? = some ((Jvm.Cond.instanceMethod ({ cls := "TreasureWalk$Cells", name := "copyFrom", desc := "(LTreasureWalk$Cells;)V" } : Jvm.MethodName))) := by decide +kernel
theorem tw_w535 : lw_tbl[535]? = some ((Jvm.Cond.selects "TreasureWalk$Cells" ({ cls := "TreasureWalk$Cells", name := "copyFrom", desc := "(LTreasureWalk$Cells;)V" } : Jvm.MethodName) ({ cls := "TreasureWalk$Cells", name := "copyFrom", desc := "(LTreasureWalk$Cells;)V" } : Jvm.MethodName))) := by decide +kernel
theorem tw_w536 : lw_tbl[536]? = some ((Jvm.Cond.code ({ cls := "TreasureWalk$Cells", name := "copyFrom", desc := "(LTreasureWalk$Cells;)V" } : Jvm.MethodName) prog_2_method_10_code (2 : Nat) (Option.none : Option Jvm.ClassFile.FieldType))) := by decide +kernel
theorem tw_w537 : lw_tbl[537]? = some ((Jvm.Cond.methodLink "TreasureWalk$Cells" (31 : Nat) ({ cls := "java/lang/Math", name := "min", desc := "(II)I" } : Jvm.MethodName))) := by decide +kernel
theorem tw_w540 : lw_tbl[540]? = some ((Jvm.Cond.methodLink "TreasureWalk$Cells" (37 : Nat) ({ cls := "java/lang/System", name := "arraycopy", desc := "(Ljava/lang/Object;ILjava/lang/Object;II)V" } : Jvm.MethodName))) := by decide +kernel
theorem tw_w543 : lw_tbl[543]? = some ((Jvm.Cond.methodLink "TreasureWalk$Survey" (45 : Nat) ({ cls := "TreasureWalk$Clues", name := "isUsed", desc := "(I)Z" } : Jvm.MethodName))) := by decide +kernel
theorem tw_w544 : lw_tbl[544]? = some ((Jvm.Cond.instanceMethod ({ cls := "TreasureWalk$Clues", name := "isUsed", desc := "(I)Z" } : Jvm.MethodName))) := by decide +kernel
theorem tw_w545 : lw_tbl[545]? = some ((Jvm.Cond.selects "TreasureWalk$Clues" ({ cls := "TreasureWalk$Clues", name := "isUsed", desc := "(I)Z" } : Jvm.MethodName) ({ cls := "TreasureWalk$Clues", name := "isUsed", desc := "(I)Z" } : Jvm.MethodName))) := by decide +kernel
theorem tw_w546 : lw_tbl[546]? = some ((Jvm.Cond.code ({ cls := "TreasureWalk$Clues", name := "isUsed", desc := "(I)Z" } : Jvm.MethodName) prog_3_method_3_code (2 : Nat) (Option.some Jvm.ClassFile.FieldType.boolean))) := by decide +kernel
theorem tw_w547 : lw_tbl[547]? = some ((Jvm.Cond.methodLink "TreasureWalk$Clues" (51 : Nat) ({ cls := "TreasureWalk$Row", name := "get", desc := "(I)I" } : Jvm.MethodName))) := by decide +kernel
theorem tw_w548 : lw_tbl[548]? = some ((Jvm.Cond.instanceMethod ({ cls := "TreasureWalk$Row", name := "get", desc := "(I)I" } : Jvm.MethodName))) := by decide +kernel
theorem tw_w549 : lw_tbl[549]? = some ((Jvm.Cond.selects "TreasureWalk$Row" ({ cls := "TreasureWalk$Row", name := "get", desc := "(I)I" } : Jvm.MethodName) ({ cls := "TreasureWalk$Row", name := "get", desc := "(I)I" } : Jvm.MethodName))) := by decide +kernel
theorem tw_w550 : lw_tbl[550]? = some ((Jvm.Cond.code ({ cls := "TreasureWalk$Row", name := "get", desc := "(I)I" } : Jvm.MethodName) prog_9_method_2_code (2 : Nat) (Option.some Jvm.ClassFile.FieldType.int))) := by decide +kernel
theorem tw_w551 : lw_tbl[551]? = some ((Jvm.Cond.methodLink "TreasureWalk$Survey" (49 : Nat) ({ cls := "TreasureWalk$Trails", name := "region", desc := "(I)LTreasureWalk$Cells;" } : Jvm.MethodName))) := by decide +kernel
theorem tw_w552 : lw_tbl[552]? = some ((Jvm.Cond.instanceMethod ({ cls := "TreasureWalk$Trails", name := "region", desc := "(I)LTreasureWalk$Cells;" } : Jvm.MethodName))) := by decide +kernel
theorem tw_w553 : lw_tbl[553]? = some ((Jvm.Cond.selects "TreasureWalk$Trails" ({ cls := "TreasureWalk$Trails", name := "region", desc := "(I)LTreasureWalk$Cells;" } : Jvm.MethodName) ({ cls := "TreasureWalk$Trails", name := "region", desc := "(I)LTreasureWalk$Cells;" } : Jvm.MethodName))) := by decide +kernel
theorem tw_w554 : lw_tbl[554]? = some ((Jvm.Cond.code ({ cls := "TreasureWalk$Trails", name := "region", desc := "(I)LTreasureWalk$Cells;" } : Jvm.MethodName) prog_12_method_10_code (2 : Nat) (Option.some (Jvm.ClassFile.FieldType.object "TreasureWalk$Cells")))) := by decide +kernel
theorem tw_w555 : lw_tbl[555]? = some ((Jvm.Cond.methodLink "TreasureWalk$Trails" (64 : Nat) ({ cls := "TreasureWalk$Row", name := "get", desc := "(I)I" } : Jvm.MethodName))) := by decide +kernel
theorem tw_w556 : lw_tbl[556]? = some ((Jvm.Cond.methodLink "TreasureWalk$Trails" (143 : Nat) ({ cls := "TreasureWalk$Layers", name := "at", desc := "(I)LTreasureWalk$Cells;" } : Jvm.MethodName))) := by decide +kernel
theorem tw_w557 : lw_tbl[557]? = some ((Jvm.Cond.instanceMethod ({ cls := "TreasureWalk$Layers", name := "at", desc := "(I)LTreasureWalk$Cells;" } : Jvm.MethodName))) := by decide +kernel
theorem tw_w558 : lw_tbl[558]? = some ((Jvm.Cond.selects "TreasureWalk$Layers" ({ cls := "TreasureWalk$Layers", name := "at", desc := "(I)LTreasureWalk$Cells;" } : Jvm.MethodName) ({ cls := "TreasureWalk$Layers", name := "at", desc := "(I)LTreasureWalk$Cells;" } : Jvm.MethodName))) := by decide +kernel
theorem tw_w559 : lw_tbl[559]? = some ((Jvm.Cond.code ({ cls := "TreasureWalk$Layers", name := "at", desc := "(I)LTreasureWalk$Cells;" } : Jvm.MethodName) prog_7_method_2_code (3 : Nat) (Option.some (Jvm.ClassFile.FieldType.object "TreasureWalk$Cells")))) := by decide +kernel
theorem tw_w560 : lw_tbl[560]? = some ((Jvm.Cond.methodLink "TreasureWalk$Survey" (65 : Nat) ({ cls := "TreasureWalk$Cells", name := "keepOnly", desc := "(LTreasureWalk$Cells;)V" } : Jvm.MethodName))) := by decide +kernel
theorem tw_w561 : lw_tbl[561]? = some ((Jvm.Cond.instanceMethod ({ cls := "TreasureWalk$Cells", name := "keepOnly", desc := "(LTreasureWalk$Cells;)V" } : Jvm.MethodName))) := by decide +kernel
theorem tw_w562 : lw_tbl[562]? = some ((Jvm.Cond.selects "TreasureWalk$Cells" ({ cls := "TreasureWalk$Cells", name := "keepOnly", desc := "(LTreasureWalk$Cells;)V" } : Jvm.MethodName) ({ cls := "TreasureWalk$Cells", name := "keepOnly", desc := "(LTreasureWalk$Cells;)V" } : Jvm.MethodName))) := by decide +kernel
theorem tw_w563 : lw_tbl[563]? = some ((Jvm.Cond.code ({ cls := "TreasureWalk$Cells", name := "keepOnly", desc := "(LTreasureWalk$Cells;)V" } : Jvm.MethodName) prog_2_method_8_code (3 : Nat) (Option.none : Option Jvm.ClassFile.FieldType))) := by decide +kernel
theorem tw_w564 : lw_tbl[564]? = some ((Jvm.Cond.methodLink "TreasureWalk$Survey" (75 : Nat) ({ cls := "TreasureWalk$Cells", name := "removeAll", desc := "(LTreasureWalk$Cells;)V" } : Jvm.MethodName))) := by decide +kernel
theorem tw_w565 : lw_tbl[565]? = some ((Jvm.Cond.instanceMethod ({ cls := "TreasureWalk$Cells", name := "removeAll", desc := "(LTreasureWalk$Cells;)V" } : Jvm.MethodName))) := by decide +kernel
theorem tw_w566 : lw_tbl[566]? = some ((Jvm.Cond.selects "TreasureWalk$Cells" ({ cls := "TreasureWalk$Cells", name := "removeAll", desc := "(LTreasureWalk$Cells;)V" } : Jvm.MethodName) ({ cls := "TreasureWalk$Cells", name := "removeAll", desc := "(LTreasureWalk$Cells;)V" } : Jvm.MethodName))) := by decide +kernel
theorem tw_w567 : lw_tbl[567]? = some ((Jvm.Cond.code ({ cls := "TreasureWalk$Cells", name := "removeAll", desc := "(LTreasureWalk$Cells;)V" } : Jvm.MethodName) prog_2_method_9_code (3 : Nat) (Option.none : Option Jvm.ClassFile.FieldType))) := by decide +kernel
theorem tw_w568 : lw_tbl[568]? = some ((Jvm.Cond.methodLink "TreasureWalk$Survey" (101 : Nat) ({ cls := "TreasureWalk$Survey", name := "distancesFrom", desc := "(I)LTreasureWalk$Row;" } : Jvm.MethodName))) := by decide +kernel
theorem tw_w569 : lw_tbl[569]? = some ((Jvm.Cond.instanceMethod ({ cls := "TreasureWalk$Survey", name := "distancesFrom", desc := "(I)LTreasureWalk$Row;" } : Jvm.MethodName))) := by decide +kernel
theorem tw_w570 : lw_tbl[570]? = some ((Jvm.Cond.selects "TreasureWalk$Survey" ({ cls := "TreasureWalk$Survey", name := "distancesFrom", desc := "(I)LTreasureWalk$Row;" } : Jvm.MethodName) ({ cls := "TreasureWalk$Survey", name := "distancesFrom", desc := "(I)LTreasureWalk$Row;" } : Jvm.MethodName))) := by decide +kernel
theorem tw_w571 : lw_tbl[571]? = some ((Jvm.Cond.code ({ cls := "TreasureWalk$Survey", name := "distancesFrom", desc := "(I)LTreasureWalk$Row;" } : Jvm.MethodName) prog_10_method_7_code (2 : Nat) (Option.some (Jvm.ClassFile.FieldType.object "TreasureWalk$Row")))) := by decide +kernel
theorem tw_w572 : lw_tbl[572]? = some ((Jvm.Cond.methodLink "TreasureWalk$Survey" (81 : Nat) ({ cls := "TreasureWalk$Flood", name := "clear", desc := "()V" } : Jvm.MethodName))) := by decide +kernel
theorem tw_w573 : lw_tbl[573]? = some ((Jvm.Cond.instanceMethod ({ cls := "TreasureWalk$Flood", name := "clear", desc := "()V" } : Jvm.MethodName))) := by decide +kernel
theorem tw_w574 : lw_tbl[574]? = some ((Jvm.Cond.selects "TreasureWalk$Flood" ({ cls := "TreasureWalk$Flood", name := "clear", desc := "()V" } : Jvm.MethodName) ({ cls := "TreasureWalk$Flood", name := "clear", desc := "()V" } : Jvm.MethodName))) := by decide +kernel
theorem tw_w575 : lw_tbl[575]? = some ((Jvm.Cond.code ({ cls := "TreasureWalk$Flood", name := "clear", desc := "()V" } : Jvm.MethodName) prog_5_method_2_code (1 : Nat) (Option.none : Option Jvm.ClassFile.FieldType))) := by decide +kernel
theorem tw_w576 : lw_tbl[576]? = some ((Jvm.Cond.methodLink "TreasureWalk$Flood" (23 : Nat) ({ cls := "TreasureWalk$Row", name := "fill", desc := "(I)V" } : Jvm.MethodName))) := by decide +kernel
theorem tw_w577 : lw_tbl[577]? = some ((Jvm.Cond.methodLink "TreasureWalk$Survey" (94 : Nat) ({ cls := "TreasureWalk$Flood", name := "spread", desc := "(LTreasureWalk$Cells;I)I" } : Jvm.MethodName))) := by decide +kernel
theorem tw_w578 : lw_tbl[578]? = some ((Jvm.Cond.instanceMethod ({ cls := "TreasureWalk$Flood", name := "spread", desc := "(LTreasureWalk$Cells;I)I" } : Jvm.MethodName))) := by decide +kernel
theorem tw_w579 : lw_tbl[579]? = some ((Jvm.Cond.selects "TreasureWalk$Flood" ({ cls := "TreasureWalk$Flood", name := "spread", desc := "(LTreasureWalk$Cells;I)I" } : Jvm.MethodName) ({ cls := "TreasureWalk$Flood", name := "spread", desc := "(LTreasureWalk$Cells;I)I" } : Jvm.MethodName))) := by decide +kernel
theorem tw_w580 : lw_tbl[580]? = some ((Jvm.Cond.code ({ cls := "TreasureWalk$Flood", name := "spread", desc := "(LTreasureWalk$Cells;I)I" } : Jvm.MethodName) prog_5_method_3_code (5 : Nat) (Option.some Jvm.ClassFile.FieldType.int))) := by decide +kernel
theorem tw_w581 : lw_tbl[581]? = some ((Jvm.Cond.methodLink "TreasureWalk$Flood" (26 : Nat) ({ cls := "TreasureWalk$Row", name := "put", desc := "(II)V" } : Jvm.MethodName))) := by decide +kernel
theorem tw_w582 : lw_tbl[582]? = some ((Jvm.Cond.methodLink "TreasureWalk$Flood" (30 : Nat) ({ cls := "TreasureWalk$Row", name := "get", desc := "(I)I" } : Jvm.MethodName))) := by decide +kernel
theorem tw_w583 : lw_tbl[583]? = some ((Jvm.Cond.methodLink "TreasureWalk$Flood" (34 : Nat) ({ cls := "TreasureWalk$Flood", name := "visitNeighbours", desc := "(LTreasureWalk$Cells;II)I" } : Jvm.MethodName))) := by decide +kernel
theorem tw_w585 : lw_tbl[585]? = some ((Jvm.Cond.instanceMethod ({ cls := "TreasureWalk$Flood", name := "visitNeighbours", desc := "(LTreasureWalk$Cells;II)I" } : Jvm.MethodName))) := by decide +kernel
theorem tw_w586 : lw_tbl[586]? = some ((Jvm.Cond.code ({ cls := "TreasureWalk$Flood", name := "visitNeighbours", desc := "(LTreasureWalk$Cells;II)I" } : Jvm.MethodName) prog_5_method_4_code (7 : Nat) (Option.some Jvm.ClassFile.FieldType.int))) := by decide +kernel
theorem tw_w587 : lw_tbl[587]? = some ((Jvm.Cond.methodLinkNest "TreasureWalk$Flood" (38 : Nat) ({ cls := "TreasureWalk", name := "neighbour", desc := "(II)I" } : Jvm.MethodName) "TreasureWalk")) := by decide +kernel
theorem tw_w588 : lw_tbl[588]? = some ((Jvm.Cond.static ({ cls := "TreasureWalk", name := "neighbour", desc := "(II)I" } : Jvm.MethodName))) := by decide +kernel
theorem tw_w589 : lw_tbl[589]? = some ((Jvm.Cond.code ({ cls := "TreasureWalk", name := "neighbour", desc := "(II)I" } : Jvm.MethodName) prog_1_method_31_code (3 : Nat) (Option.some Jvm.ClassFile.FieldType.int))) := by decide +kernel
theorem tw_w590 : lw_tbl[590]? = some ((Jvm.Cond.fieldLink "TreasureWalk" (278 : Nat) "TreasureWalk" "OFFSETS" "[I")) := by decide +kernel
theorem tw_w592 : lw_tbl[592]? = some ((Jvm.Cond.methodLink "TreasureWalk$Flood" (42 : Nat) ({ cls := "TreasureWalk$Cells", name := "has", desc := "(I)Z" } : Jvm.MethodName))) := by decide +kernel
theorem tw_w593 : lw_tbl[593]? = some ((Jvm.Cond.instanceMethod ({ cls := "TreasureWalk$Cells", name := "has", desc := "(I)Z" } : Jvm.MethodName))) := by decide +kernel
theorem tw_w594 : lw_tbl[594]? = some ((Jvm.Cond.selects "TreasureWalk$Cells" ({ cls := "TreasureWalk$Cells", name := "has", desc := "(I)Z" } : Jvm.MethodName) ({ cls := "TreasureWalk$Cells", name := "has", desc := "(I)Z" } : Jvm.MethodName))) := by decide +kernel
theorem tw_w595 : lw_tbl[595]? = some ((Jvm.Cond.code ({ cls := "TreasureWalk$Cells", name := "has", desc := "(I)Z" } : Jvm.MethodName) prog_2_method_2_code (3 : Nat) (Option.some Jvm.ClassFile.FieldType.boolean))) := by decide +kernel
theorem tw_w596 : lw_tbl[596]? = some ((Jvm.Cond.methodLink "TreasureWalk$Survey" (55 : Nat) ({ cls := "TreasureWalk$Cells", name := "has", desc := "(I)Z" } : Jvm.MethodName))) := by decide +kernel
theorem tw_w597 : lw_tbl[597]? = some ((Jvm.Cond.methodLink "TreasureWalk$Survey" (88 : Nat) ({ cls := "TreasureWalk$Row", name := "get", desc := "(I)I" } : Jvm.MethodName))) := by decide +kernel
theorem tw_w598 : lw_tbl[598]? = some ((Jvm.Cond.methodLink "TreasureWalk" (146 : Nat) ({ cls := "TreasureWalk$Data", name := "numberOf", desc := "(I)I" } : Jvm.MethodName))) := by decide +kernel
theorem tw_w599 : lw_tbl[599]? = some ((Jvm.Cond.instanceMethod ({ cls := "TreasureWalk$Data", name := "numberOf", desc := "(I)I" } : Jvm.MethodName))) := by decide +kernel
theorem tw_w600 : lw_tbl[600]? = some ((Jvm.Cond.selects "TreasureWalk$Data" ({ cls := "TreasureWalk$Data", name := "numberOf", desc := "(I)I" } : Jvm.MethodName) ({ cls := "TreasureWalk$Data", name := "numberOf", desc := "(I)I" } : Jvm.MethodName))) := by decide +kernel
theorem tw_w601 : lw_tbl[601]? = some ((Jvm.Cond.code ({ cls := "TreasureWalk$Data", name := "numberOf", desc := "(I)I" } : Jvm.MethodName) prog_4_method_3_code (2 : Nat) (Option.some Jvm.ClassFile.FieldType.int))) := by decide +kernel
theorem tw_w602 : lw_tbl[602]? = some ((Jvm.Cond.methodLinkNest "TreasureWalk$Data" (82 : Nat) ({ cls := "TreasureWalk", name := "rowOf", desc := "(I)I" } : Jvm.MethodName) "TreasureWalk")) := by decide +kernel
theorem tw_w603 : lw_tbl[603]? = some ((Jvm.Cond.static ({ cls := "TreasureWalk", name := "rowOf", desc := "(I)I" } : Jvm.MethodName))) := by decide +kernel
theorem tw_w604 : lw_tbl[604]? = some ((Jvm.Cond.code ({ cls := "TreasureWalk", name := "rowOf", desc := "(I)I" } : Jvm.MethodName) prog_1_method_30_code (1 : Nat) (Option.some Jvm.ClassFile.FieldType.int))) := by decide +kernel
theorem tw_w605 : lw_tbl[605]? = some ((Jvm.Cond.methodLinkNest "TreasureWalk$Data" (86 : Nat) ({ cls := "TreasureWalk", name := "columnOf", desc := "(I)I" } : Jvm.MethodName) "TreasureWalk")) := by decide +kernel
theorem tw_w606 : lw_tbl[606]? = some ((Jvm.Cond.static ({ cls := "TreasureWalk", name := "columnOf", desc := "(I)I" } : Jvm.MethodName))) := by decide +kernel
theorem tw_w607 : lw_tbl[607]? = some ((Jvm.Cond.code ({ cls := "TreasureWalk", name := "columnOf", desc := "(I)I" } : Jvm.MethodName) prog_1_method_29_code (1 : Nat) (Option.some Jvm.ClassFile.FieldType.int))) := by decide +kernel
theorem tw_w609 : lw_tbl[609]? = some ((Jvm.Cond.instanceMethod ({ cls := "TreasureWalk", name := "tour", desc := "()I" } : Jvm.MethodName))) := by decide +kernel
theorem tw_w610 : lw_tbl[610]? = some ((Jvm.Cond.selects "TreasureWalk" ({ cls := "TreasureWalk", name := "tour", desc := "()I" } : Jvm.MethodName) ({ cls := "TreasureWalk", name := "tour", desc := "()I" } : Jvm.MethodName))) := by decide +kernel
theorem tw_w611 : lw_tbl[611]? = some ((Jvm.Cond.code ({ cls := "TreasureWalk", name := "tour", desc := "()I" } : Jvm.MethodName) prog_1_method_15_code (1 : Nat) (Option.some Jvm.ClassFile.FieldType.int))) := by decide +kernel
theorem tw_w612 : lw_tbl[612]? = some ((Jvm.Cond.methodLink "TreasureWalk" (221 : Nat) ({ cls := "TreasureWalk$Tours", name := "shortest", desc := "()I" } : Jvm.MethodName))) := by decide +kernel
theorem tw_w613 : lw_tbl[613]? = some ((Jvm.Cond.instanceMethod ({ cls := "TreasureWalk$Tours", name := "shortest", desc := "()I" } : Jvm.MethodName))) := by decide +kernel
theorem tw_w614 : lw_tbl[614]? = some ((Jvm.Cond.selects "TreasureWalk$Tours" ({ cls := "TreasureWalk$Tours", name := "shortest", desc := "()I" } : Jvm.MethodName) ({ cls := "TreasureWalk$Tours", name := "shortest", desc := "()I" } : Jvm.MethodName))) := by decide +kernel
theorem tw_w615 : lw_tbl[615]? = some ((Jvm.Cond.code ({ cls := "TreasureWalk$Tours", name := "shortest", desc := "()I" } : Jvm.MethodName) prog_11_method_2_code (3 : Nat) (Option.some Jvm.ClassFile.FieldType.int))) := by decide +kernel
theorem tw_w616 : lw_tbl[616]? = some ((Jvm.Cond.methodLink "TreasureWalk$Tours" (34 : Nat) ({ cls := "TreasureWalk$Survey", name := "left", desc := "()LTreasureWalk$Cells;" } : Jvm.MethodName))) := by decide +kernel
theorem tw_w617 : lw_tbl[617]? = some ((Jvm.Cond.methodLink "TreasureWalk$Tours" (40 : Nat) ({ cls := "TreasureWalk$Cells", name := "count", desc := "()I" } : Jvm.MethodName))) := by decide +kernel
theorem tw_w618 : lw_tbl[618]? = some ((Jvm.Cond.instanceMethod ({ cls := "TreasureWalk$Cells", name := "count", desc := "()I" } : Jvm.MethodName))) := by decide +kernel
theorem tw_w619 : lw_tbl[619]? = some ((Jvm.Cond.selects "TreasureWalk$Cells" ({ cls := "TreasureWalk$Cells", name := "count", desc := "()I" } : Jvm.MethodName) ({ cls := "TreasureWalk$Cells", name := "count", desc := "()I" } : Jvm.MethodName))) := by decide +kernel
theorem tw_w620 : lw_tbl[620]? = some ((Jvm.Cond.code ({ cls := "TreasureWalk$Cells", name := "count", desc := "()I" } : Jvm.MethodName) prog_2_method_6_code (6 : Nat) (Option.some Jvm.ClassFile.FieldType.int))) := by decide +kernel
theorem tw_w621 : lw_tbl[621]? = some ((Jvm.Cond.methodLink "TreasureWalk$Cells" (21 : Nat) ({ cls := "java/lang/Integer", name := "bitCount", desc := "(I)I" } : Jvm.MethodName))) := by decide +kernel
theorem tw_w622 : lw_tbl[622]? = some ((Jvm.Cond.static ({ cls := "java/lang/Integer", name := "bitCount", desc := "(I)I" } : Jvm.MethodName))) := by decide +kernel
theorem tw_w623 : lw_tbl[623]? = some ((Jvm.Cond.code ({ cls := "java/lang/Integer", name := "bitCount", desc := "(I)I" } : Jvm.MethodName) prog_21_method_49_code (1 : Nat) (Option.some Jvm.ClassFile.FieldType.int))) := by decide +kernel
theorem tw_w624 : lw_tbl[624]? = some ((Jvm.Cond.constant "java/lang/Integer" (265 : Nat) (1431655765 : Int32))) := by decide +kernel
theorem tw_w625 : lw_tbl[625]? = some ((Jvm.Cond.constant "java/lang/Integer" (266 : Nat) (858993459 : Int32))) := by decide +kernel
theorem tw_w626 : lw_tbl[626]? = some ((Jvm.Cond.constant "java/lang/Integer" (267 : Nat) (252645135 : Int32))) := by decide +kernel
theorem tw_w627 : lw_tbl[627]? = some ((Jvm.Cond.methodLink "TreasureWalk$Tours" (49 : Nat) ({ cls := "TreasureWalk$Cells", name := "at", desc := "(I)I" } : Jvm.MethodName))) := by decide +kernel
theorem tw_w628 : lw_tbl[628]? = some ((Jvm.Cond.instanceMethod ({ cls := "TreasureWalk$Cells", name := "at", desc := "(I)I" } : Jvm.MethodName))) := by decide +kernel
theorem tw_w629 : lw_tbl[629]? = some ((Jvm.Cond.selects "TreasureWalk$Cells" ({ cls := "TreasureWalk$Cells", name := "at", desc := "(I)I" } : Jvm.MethodName) ({ cls := "TreasureWalk$Cells", name := "at", desc := "(I)I" } : Jvm.MethodName))) := by decide +kernel
theorem tw_w630 : lw_tbl[630]? = some ((Jvm.Cond.code ({ cls := "TreasureWalk$Cells", name := "at", desc := "(I)I" } : Jvm.MethodName) prog_2_method_7_code (4 : Nat) (Option.some Jvm.ClassFile.FieldType.int))) := by decide +kernel
theorem tw_w631 : lw_tbl[631]? = some ((Jvm.Cond.methodLink "TreasureWalk$Cells" (27 : Nat) ({ cls := "TreasureWalk$Cells", name := "has", desc := "(I)Z" } : Jvm.MethodName))) := by decide +kernel
theorem tw_w632 : lw_tbl[632]? = some ((Jvm.Cond.methodLink "TreasureWalk$Tours" (53 : Nat) ({ cls := "TreasureWalk$Row", name := "put", desc := "(II)V" } : Jvm.MethodName))) := by decide +kernel
theorem tw_w633 : lw_tbl[633]? = some ((Jvm.Cond.methodLink "TreasureWalk$Tours" (57 : Nat) ({ cls := "TreasureWalk$Row", name := "get", desc := "(I)I" } : Jvm.MethodName))) := by decide +kernel
theorem tw_w634 : lw_tbl[634]? = some ((Jvm.Cond.methodLink "TreasureWalk$Tours" (60 : Nat) ({ cls := "TreasureWalk$Tours", name := "measureHops", desc := "(II)Z" } : Jvm.MethodName))) := by decide +kernel
theorem tw_w636 : lw_tbl[636]? = some ((Jvm.Cond.instanceMethod ({ cls := "TreasureWalk$Tours", name := "measureHops", desc := "(II)Z" } : Jvm.MethodName))) := by decide +kernel
theorem tw_w637 : lw_tbl[637]? = some ((Jvm.Cond.code ({ cls := "TreasureWalk$Tours", name := "measureHops", desc := "(II)Z" } : Jvm.MethodName) prog_11_method_3_code (7 : Nat) (Option.some Jvm.ClassFile.FieldType.boolean))) := by decide +kernel
theorem tw_w638 : lw_tbl[638]? = some ((Jvm.Cond.methodLink "TreasureWalk$Tours" (72 : Nat) ({ cls := "TreasureWalk$Survey", name := "distancesFrom", desc := "(I)LTreasureWalk$Row;" } : Jvm.MethodName))) := by decide +kernel
theorem tw_w639 : lw_tbl[639]? = some ((Jvm.Cond.methodLink "TreasureWalk$Tours" (69 : Nat) ({ cls := "TreasureWalk$Tours", name := "joinHops", desc := "()I" } : Jvm.MethodName))) := by decide +kernel
theorem tw_w641 : lw_tbl[641]? = some ((Jvm.Cond.instanceMethod ({ cls := "TreasureWalk$Tours", name := "joinHops", desc := "()I" } : Jvm.MethodName))) := by decide +kernel
theorem tw_w642 : lw_tbl[642]? = some ((Jvm.Cond.code ({ cls := "TreasureWalk$Tours", name := "joinHops", desc := "()I" } : Jvm.MethodName) prog_11_method_4_code (4 : Nat) (Option.some Jvm.ClassFile.FieldType.int))) := by decide +kernel
theorem tw_w643 : lw_tbl[643]? = some ((Jvm.Cond.methodLink "TreasureWalk$Tours" (76 : Nat) ({ cls := "TreasureWalk$Tours", name := "fewestTo", desc := "(II)I" } : Jvm.MethodName))) := by decide +kernel
theorem tw_w645 : lw_tbl[645]? = some ((Jvm.Cond.instanceMethod ({ cls := "TreasureWalk$Tours", name := "fewestTo", desc := "(II)I" } : Jvm.MethodName))) := by decide +kernel
theorem tw_w646 : lw_tbl[646]? = some ((Jvm.Cond.code ({ cls := "TreasureWalk$Tours", name := "fewestTo", desc := "(II)I" } : Jvm.MethodName) prog_11_method_5_code (7 : Nat) (Option.some Jvm.ClassFile.FieldType.int))) := by decide +kernel
theorem tw_w647 : lw_tbl[647]? = some ((Jvm.Cond.constant "TreasureWalk$Tours" (87 : Nat) (2147483647 : Int32))) := by decide +kernel
theorem tw_w648 : lw_tbl[648]? = some ((Jvm.Cond.methodLink "TreasureWalk$Tours" (80 : Nat) ({ cls := "java/lang/Math", name := "min", desc := "(II)I" } : Jvm.MethodName))) := by decide +kernel
theorem tw_w658 : lw_tbl[658]? = some ((Jvm.Cond.instanceMethod ({ cls := "TreasureWalk", name := "chestIsLeft", desc := "()Z" } : Jvm.MethodName))) := by decide +kernel
theorem tw_w659 : lw_tbl[659]? = some ((Jvm.Cond.selects "TreasureWalk" ({ cls := "TreasureWalk", name := "chestIsLeft", desc := "()Z" } : Jvm.MethodName) ({ cls := "TreasureWalk", name := "chestIsLeft", desc := "()Z" } : Jvm.MethodName))) := by decide +kernel
theorem tw_w660 : lw_tbl[660]? = some ((Jvm.Cond.code ({ cls := "TreasureWalk", name := "chestIsLeft", desc := "()Z" } : Jvm.MethodName) prog_1_method_18_code (1 : Nat) (Option.some Jvm.ClassFile.FieldType.boolean))) := by decide +kernel
theorem tw_w661 : lw_tbl[661]? = some ((Jvm.Cond.methodLink "TreasureWalk" (136 : Nat) ({ cls := "TreasureWalk$Survey", name := "left", desc := "()LTreasureWalk$Cells;" } : Jvm.MethodName))) := by decide +kernel
theorem tw_w662 : lw_tbl[662]? = some ((Jvm.Cond.methodLink "TreasureWalk" (163 : Nat) ({ cls := "TreasureWalk$Cells", name := "has", desc := "(I)Z" } : Jvm.MethodName))) := by decide +kernel
theorem tw_w664 : lw_tbl[664]? = some ((Jvm.Cond.instanceMethod ({ cls := "TreasureWalk", name := "dig", desc := "()I" } : Jvm.MethodName))) := by decide +kernel
theorem tw_w665 : lw_tbl[665]? = some ((Jvm.Cond.selects "TreasureWalk" ({ cls := "TreasureWalk", name := "dig", desc := "()I" } : Jvm.MethodName) ({ cls := "TreasureWalk", name := "dig", desc := "()I" } : Jvm.MethodName))) := by decide +kernel
theorem tw_w666 : lw_tbl[666]? = some ((Jvm.Cond.code ({ cls := "TreasureWalk", name := "dig", desc := "()I" } : Jvm.MethodName) prog_1_method_20_code (1 : Nat) (Option.some Jvm.ClassFile.FieldType.int))) := by decide +kernel
theorem tw_w667 : lw_tbl[667]? = some ((Jvm.Cond.methodLink "TreasureWalk" (91 : Nat) ({ cls := "TreasureWalk$History", name := "keep", desc := "(LTreasureWalk$Data;)V" } : Jvm.MethodName))) := by decide +kernel
theorem tw_w668 : lw_tbl[668]? = some ((Jvm.Cond.instanceMethod ({ cls := "TreasureWalk$History", name := "keep", desc := "(LTreasureWalk$Data;)V" } : Jvm.MethodName))) := by decide +kernel
theorem tw_w669 : lw_tbl[669]? = some ((Jvm.Cond.selects "TreasureWalk$History" ({ cls := "TreasureWalk$History", name := "keep", desc := "(LTreasureWalk$Data;)V" } : Jvm.MethodName) ({ cls := "TreasureWalk$History", name := "keep", desc := "(LTreasureWalk$Data;)V" } : Jvm.MethodName))) := by decide +kernel
theorem tw_w670 : lw_tbl[670]? = some ((Jvm.Cond.code ({ cls := "TreasureWalk$History", name := "keep", desc := "(LTreasureWalk$Data;)V" } : Jvm.MethodName) prog_6_method_2_code (3 : Nat) (Option.none : Option Jvm.ClassFile.FieldType))) := by decide +kernel
theorem tw_w671 : lw_tbl[671]? = some ((Jvm.Cond.methodLink "TreasureWalk$History" (22 : Nat) ({ cls := "TreasureWalk$History", name := "placeAt", desc := "(I)LTreasureWalk$Data;" } : Jvm.MethodName))) := by decide +kernel
theorem tw_w673 : lw_tbl[673]? = some ((Jvm.Cond.instanceMethod ({ cls := "TreasureWalk$History", name := "placeAt", desc := "(I)LTreasureWalk$Data;" } : Jvm.MethodName))) := by decide +kernel
theorem tw_w674 : lw_tbl[674]? = some ((Jvm.Cond.code ({ cls := "TreasureWalk$History", name := "placeAt", desc := "(I)LTreasureWalk$Data;" } : Jvm.MethodName) prog_6_method_4_code (2 : Nat) (Option.some (Jvm.ClassFile.FieldType.object "TreasureWalk$Data")))) := by decide +kernel
theorem tw_w675 : lw_tbl[675]? = some ((Jvm.Cond.methodLink "TreasureWalk$History" (26 : Nat) ({ cls := "TreasureWalk$Data", name := "copyFrom", desc := "(LTreasureWalk$Data;)V" } : Jvm.MethodName))) := by decide +kernel
theorem tw_w676 : lw_tbl[676]? = some ((Jvm.Cond.instanceMethod ({ cls := "TreasureWalk$Data", name := "copyFrom", desc := "(LTreasureWalk$Data;)V" } : Jvm.MethodName))) := by decide +kernel
theorem tw_w677 : lw_tbl[677]? = some ((Jvm.Cond.selects "TreasureWalk$Data" ({ cls := "TreasureWalk$Data", name := "copyFrom", desc := "(LTreasureWalk$Data;)V" } : Jvm.MethodName) ({ cls := "TreasureWalk$Data", name := "copyFrom", desc := "(LTreasureWalk$Data;)V" } : Jvm.MethodName))) := by decide +kernel
theorem tw_w678 : lw_tbl[678]? = some ((Jvm.Cond.code ({ cls := "TreasureWalk$Data", name := "copyFrom", desc := "(LTreasureWalk$Data;)V" } : Jvm.MethodName) prog_4_method_8_code (2 : Nat) (Option.none : Option Jvm.ClassFile.FieldType))) := by decide +kernel
theorem tw_w679 : lw_tbl[679]? = some ((Jvm.Cond.methodLink "TreasureWalk$Data" (103 : Nat) ({ cls := "TreasureWalk$Cells", name := "copyFrom", desc := "(LTreasureWalk$Cells;)V" } : Jvm.MethodName))) := by decide +kernel
theorem tw_w680 : lw_tbl[680]? = some ((Jvm.Cond.methodLink "TreasureWalk$Data" (107 : Nat) ({ cls := "TreasureWalk$Row", name := "copyFrom", desc := "(LTreasureWalk$Row;)V" } : Jvm.MethodName))) := by decide +kernel
theorem tw_w681 : lw_tbl[681]? = some ((Jvm.Cond.instanceMethod ({ cls := "TreasureWalk$Row", name := "copyFrom", desc := "(LTreasureWalk$Row;)V" } : Jvm.MethodName))) := by decide +kernel
theorem tw_w682 : lw_tbl[682]? = some ((Jvm.Cond.selects "TreasureWalk$Row" ({ cls := "TreasureWalk$Row", name := "copyFrom", desc := "(LTreasureWalk$Row;)V" } : Jvm.MethodName) ({ cls := "TreasureWalk$Row", name := "copyFrom", desc := "(LTreasureWalk$Row;)V" } : Jvm.MethodName))) := by decide +kernel
theorem tw_w683 : lw_tbl[683]? = some ((Jvm.Cond.code ({ cls := "TreasureWalk$Row", name := "copyFrom", desc := "(LTreasureWalk$Row;)V" } : Jvm.MethodName) prog_9_method_5_code (3 : Nat) (Option.none : Option Jvm.ClassFile.FieldType))) := by decide +kernel
theorem tw_w684 : lw_tbl[684]? = some ((Jvm.Cond.methodLink "TreasureWalk$Row" (19 : Nat) ({ cls := "java/lang/Math", name := "min", desc := "(II)I" } : Jvm.MethodName))) := by decide +kernel
theorem tw_w685 : lw_tbl[685]? = some ((Jvm.Cond.methodLink "TreasureWalk$Row" (25 : Nat) ({ cls := "java/lang/System", name := "arraycopy", desc := "(Ljava/lang/Object;ILjava/lang/Object;II)V" } : Jvm.MethodName))) := by decide +kernel
theorem tw_w686 : lw_tbl[686]? = some ((Jvm.Cond.methodLink "TreasureWalk$Data" (110 : Nat) ({ cls := "TreasureWalk$Clues", name := "copyFrom", desc := "(LTreasureWalk$Clues;)V" } : Jvm.MethodName))) := by decide +kernel
theorem tw_w687 : lw_tbl[687]? = some ((Jvm.Cond.instanceMethod ({ cls := "TreasureWalk$Clues", name := "copyFrom", desc := "(LTreasureWalk$Clues;)V" } : Jvm.MethodName))) := by decide +kernel
theorem tw_w688 : lw_tbl[688]? = some ((Jvm.Cond.selects "TreasureWalk$Clues" ({ cls := "TreasureWalk$Clues", name := "copyFrom", desc := "(LTreasureWalk$Clues;)V" } : Jvm.MethodName) ({ cls := "TreasureWalk$Clues", name := "copyFrom", desc := "(LTreasureWalk$Clues;)V" } : Jvm.MethodName))) := by decide +kernel
theorem tw_w689 : lw_tbl[689]? = some ((Jvm.Cond.code ({ cls := "TreasureWalk$Clues", name := "copyFrom", desc := "(LTreasureWalk$Clues;)V" } : Jvm.MethodName) prog_3_method_8_code (2 : Nat) (Option.none : Option Jvm.ClassFile.FieldType))) := by decide +kernel
theorem tw_w690 : lw_tbl[690]? = some ((Jvm.Cond.methodLink "TreasureWalk$Clues" (67 : Nat) ({ cls := "TreasureWalk$Row", name := "copyFrom", desc := "(LTreasureWalk$Row;)V" } : Jvm.MethodName))) := by decide +kernel
theorem tw_w691 : lw_tbl[691]? = some ((Jvm.Cond.methodLink "TreasureWalk$History" (33 : Nat) ({ cls := "java/lang/Math", name := "min", desc := "(II)I" } : Jvm.MethodName))) := by decide +kernel
theorem tw_w692 : lw_tbl[692]? = some ((Jvm.Cond.methodLink "TreasureWalk" (234 : Nat) ({ cls := "TreasureWalk$Cells", name := "add", desc := "(I)V" } : Jvm.MethodName))) := by decide +kernel
theorem tw_w694 : lw_tbl[694]? = some ((Jvm.Cond.instanceMethod ({ cls := "TreasureWalk", name := "undo", desc := "()I" } : Jvm.MethodName))) := by decide +kernel
theorem tw_w695 : lw_tbl[695]? = some ((Jvm.Cond.selects "TreasureWalk" ({ cls := "TreasureWalk", name := "undo", desc := "()I" } : Jvm.MethodName) ({ cls := "TreasureWalk", name := "undo", desc := "()I" } : Jvm.MethodName))) := by decide +kernel
theorem tw_w696 : lw_tbl[696]? = some ((Jvm.Cond.code ({ cls := "TreasureWalk", name := "undo", desc := "()I" } : Jvm.MethodName) prog_1_method_24_code (1 : Nat) (Option.some Jvm.ClassFile.FieldType.int))) := by decide +kernel
theorem tw_w697 : lw_tbl[697]? = some ((Jvm.Cond.methodLink "TreasureWalk" (255 : Nat) ({ cls := "TreasureWalk$History", name := "takeBack", desc := "(LTreasureWalk$Data;)Z" } : Jvm.MethodName))) := by decide +kernel
theorem tw_w698 : lw_tbl[698]? = some ((Jvm.Cond.instanceMethod ({ cls := "TreasureWalk$History", name := "takeBack", desc := "(LTreasureWalk$Data;)Z" } : Jvm.MethodName))) := by decide +kernel
theorem tw_w699 : lw_tbl[699]? = some ((Jvm.Cond.selects "TreasureWalk$History" ({ cls := "TreasureWalk$History", name := "takeBack", desc := "(LTreasureWalk$Data;)Z" } : Jvm.MethodName) ({ cls := "TreasureWalk$History", name := "takeBack", desc := "(LTreasureWalk$Data;)Z" } : Jvm.MethodName))) := by decide +kernel
theorem tw_w700 : lw_tbl[700]? = some ((Jvm.Cond.code ({ cls := "TreasureWalk$History", name := "takeBack", desc := "(LTreasureWalk$Data;)Z" } : Jvm.MethodName) prog_6_method_3_code (3 : Nat) (Option.some Jvm.ClassFile.FieldType.boolean))) := by decide +kernel
theorem tw_w701 : lw_tbl[701]? = some ((Jvm.Cond.methodLink "TreasureWalk" (100 : Nat) ({ cls := "TreasureWalk$Trails", name := "renew", desc := "()V" } : Jvm.MethodName))) := by decide +kernel
theorem tw_w702 : lw_tbl[702]? = some ((Jvm.Cond.instanceMethod ({ cls := "TreasureWalk$Trails", name := "renew", desc := "()V" } : Jvm.MethodName))) := by decide +kernel
theorem tw_w703 : lw_tbl[703]? = some ((Jvm.Cond.selects "TreasureWalk$Trails" ({ cls := "TreasureWalk$Trails", name := "renew", desc := "()V" } : Jvm.MethodName) ({ cls := "TreasureWalk$Trails", name := "renew", desc := "()V" } : Jvm.MethodName))) := by decide +kernel
theorem tw_w704 : lw_tbl[704]? = some ((Jvm.Cond.code ({ cls := "TreasureWalk$Trails", name := "renew", desc := "()V" } : Jvm.MethodName) prog_12_method_2_code (2 : Nat) (Option.none : Option Jvm.ClassFile.FieldType))) := by decide +kernel
theorem tw_w705 : lw_tbl[705]? = some ((Jvm.Cond.methodLink "TreasureWalk$Trails" (34 : Nat) ({ cls := "TreasureWalk$Row", name := "fill", desc := "(I)V" } : Jvm.MethodName))) := by decide +kernel
theorem tw_w706 : lw_tbl[706]? = some ((Jvm.Cond.methodLink "TreasureWalk$Trails" (43 : Nat) ({ cls := "TreasureWalk$Trails", name := "twist", desc := "(I)V" } : Jvm.MethodName))) := by decide +kernel
theorem tw_w708 : lw_tbl[708]? = some ((Jvm.Cond.instanceMethod ({ cls := "TreasureWalk$Trails", name := "twist", desc := "(I)V" } : Jvm.MethodName))) := by decide +kernel
theorem tw_w709 : lw_tbl[709]? = some ((Jvm.Cond.code ({ cls := "TreasureWalk$Trails", name := "twist", desc := "(I)V" } : Jvm.MethodName) prog_12_method_3_code (5 : Nat) (Option.none : Option Jvm.ClassFile.FieldType))) := by decide +kernel
theorem tw_w710 : lw_tbl[710]? = some ((Jvm.Cond.methodLinkNest "TreasureWalk$Trails" (71 : Nat) ({ cls := "TreasureWalk", name := "isBetween", desc := "(III)Z" } : Jvm.MethodName) "TreasureWalk")) := by decide +kernel
theorem tw_w711 : lw_tbl[711]? = some ((Jvm.Cond.static ({ cls := "TreasureWalk", name := "isBetween", desc := "(III)Z" } : Jvm.MethodName))) := by decide +kernel
theorem tw_w712 : lw_tbl[712]? = some ((Jvm.Cond.code ({ cls := "TreasureWalk", name := "isBetween", desc := "(III)Z" } : Jvm.MethodName) prog_1_method_32_code (3 : Nat) (Option.some Jvm.ClassFile.FieldType.boolean))) := by decide +kernel
theorem tw_w713 : lw_tbl[713]? = some ((Jvm.Cond.methodLink "TreasureWalk" (282 : Nat) ({ cls := "TreasureWalk", name := "columnOf", desc := "(I)I" } : Jvm.MethodName))) := by decide +kernel
theorem tw_w714 : lw_tbl[714]? = some ((Jvm.Cond.methodLink "TreasureWalk" (285 : Nat) ({ cls := "TreasureWalk", name := "rowOf", desc := "(I)I" } : Jvm.MethodName))) := by decide +kernel
theorem tw_w715 : lw_tbl[715]? = some ((Jvm.Cond.methodLink "TreasureWalk$Trails" (78 : Nat) ({ cls := "TreasureWalk$Row", name := "put", desc := "(II)V" } : Jvm.MethodName))) := by decide +kernel
theorem tw_w716 : lw_tbl[716]? = some ((Jvm.Cond.methodLink "TreasureWalk$Trails" (46 : Nat) ({ cls := "TreasureWalk$Layers", name := "clear", desc := "()V" } : Jvm.MethodName))) := by decide +kernel
theorem tw_w717 : lw_tbl[717]? = some ((Jvm.Cond.instanceMethod ({ cls := "TreasureWalk$Layers", name := "clear", desc := "()V" } : Jvm.MethodName))) := by decide +kernel
theorem tw_w718 : lw_tbl[718]? = some ((Jvm.Cond.selects "TreasureWalk$Layers" ({ cls := "TreasureWalk$Layers", name := "clear", desc := "()V" } : Jvm.MethodName) ({ cls := "TreasureWalk$Layers", name := "clear", desc := "()V" } : Jvm.MethodName))) := by decide +kernel
theorem tw_w719 : lw_tbl[719]? = some ((Jvm.Cond.code ({ cls := "TreasureWalk$Layers", name := "clear", desc := "()V" } : Jvm.MethodName) prog_7_method_3_code (2 : Nat) (Option.none : Option Jvm.ClassFile.FieldType))) := by decide +kernel
theorem tw_w720 : lw_tbl[720]? = some ((Jvm.Cond.methodLink "TreasureWalk$Layers" (20 : Nat) ({ cls := "TreasureWalk$Layers", name := "at", desc := "(I)LTreasureWalk$Cells;" } : Jvm.MethodName))) := by decide +kernel
theorem tw_w721 : lw_tbl[721]? = some ((Jvm.Cond.methodLink "TreasureWalk$Layers" (24 : Nat) ({ cls := "TreasureWalk$Cells", name := "clear", desc := "()V" } : Jvm.MethodName))) := by decide +kernel
theorem tw_w722 : lw_tbl[722]? = some ((Jvm.Cond.methodLink "TreasureWalk$Trails" (58 : Nat) ({ cls := "TreasureWalk$Trails", name := "follow", desc := "(I)V" } : Jvm.MethodName))) := by decide +kernel
theorem tw_w724 : lw_tbl[724]? = some ((Jvm.Cond.instanceMethod ({ cls := "TreasureWalk$Trails", name := "follow", desc := "(I)V" } : Jvm.MethodName))) := by decide +kernel
theorem tw_w725 : lw_tbl[725]? = some ((Jvm.Cond.code ({ cls := "TreasureWalk$Trails", name := "follow", desc := "(I)V" } : Jvm.MethodName) prog_12_method_5_code (4 : Nat) (Option.none : Option Jvm.ClassFile.FieldType))) := by decide +kernel
theorem tw_w726 : lw_tbl[726]? = some ((Jvm.Cond.methodLink "TreasureWalk$Trails" (99 : Nat) ({ cls := "TreasureWalk$Trails", name := "layer", desc := "(II)LTreasureWalk$Cells;" } : Jvm.MethodName))) := by decide +kernel
theorem tw_w727 : lw_tbl[727]? = some ((Jvm.Cond.instanceMethod ({ cls := "TreasureWalk$Trails", name := "layer", desc := "(II)LTreasureWalk$Cells;" } : Jvm.MethodName))) := by decide +kernel
theorem tw_w728 : lw_tbl[728]? = some ((Jvm.Cond.selects "TreasureWalk$Trails" ({ cls := "TreasureWalk$Trails", name := "layer", desc := "(II)LTreasureWalk$Cells;" } : Jvm.MethodName) ({ cls := "TreasureWalk$Trails", name := "layer", desc := "(II)LTreasureWalk$Cells;" } : Jvm.MethodName))) := by decide +kernel
theorem tw_w729 : lw_tbl[729]? = some ((Jvm.Cond.code ({ cls := "TreasureWalk$Trails", name := "layer", desc := "(II)LTreasureWalk$Cells;" } : Jvm.MethodName) prog_12_method_9_code (3 : Nat) (Option.some (Jvm.ClassFile.FieldType.object "TreasureWalk$Cells")))) := by decide +kernel
theorem tw_w730 : lw_tbl[730]? = some ((Jvm.Cond.methodLink "TreasureWalk$Trails" (103 : Nat) ({ cls := "TreasureWalk$Trails", name := "startSpot", desc := "(II)I" } : Jvm.MethodName))) := by decide +kernel
theorem tw_w732 : lw_tbl[732]? = some ((Jvm.Cond.instanceMethod ({ cls := "TreasureWalk$Trails", name := "startSpot", desc := "(II)I" } : Jvm.MethodName))) := by decide +kernel
theorem tw_w733 : lw_tbl[733]? = some ((Jvm.Cond.code ({ cls := "TreasureWalk$Trails", name := "startSpot", desc := "(II)I" } : Jvm.MethodName) prog_12_method_8_code (3 : Nat) (Option.some Jvm.ClassFile.FieldType.int))) := by decide +kernel
theorem tw_w734 : lw_tbl[734]? = some ((Jvm.Cond.methodLink "TreasureWalk$Trails" (140 : Nat) ({ cls := "TreasureWalk$Clues", name := "startMark", desc := "(II)I" } : Jvm.MethodName))) := by decide +kernel
theorem tw_w735 : lw_tbl[735]? = some ((Jvm.Cond.instanceMethod ({ cls := "TreasureWalk$Clues", name := "startMark", desc := "(II)I" } : Jvm.MethodName))) := by decide +kernel
theorem tw_w736 : lw_tbl[736]? = some ((Jvm.Cond.selects "TreasureWalk$Clues" ({ cls := "TreasureWalk$Clues", name := "startMark", desc := "(II)I" } : Jvm.MethodName) ({ cls := "TreasureWalk$Clues", name := "startMark", desc := "(II)I" } : Jvm.MethodName))) := by decide +kernel
theorem tw_w737 : lw_tbl[737]? = some ((Jvm.Cond.code ({ cls := "TreasureWalk$Clues", name := "startMark", desc := "(II)I" } : Jvm.MethodName) prog_3_method_5_code (3 : Nat) (Option.some Jvm.ClassFile.FieldType.int))) := by decide +kernel
theorem tw_w738 : lw_tbl[738]? = some ((Jvm.Cond.methodLink "TreasureWalk$Trails" (106 : Nat) ({ cls := "TreasureWalk$Cells", name := "add", desc := "(I)V" } : Jvm.MethodName))) := by decide +kernel
theorem tw_w739 : lw_tbl[739]? = some ((Jvm.Cond.methodLink "TreasureWalk$Trails" (90 : Nat) ({ cls := "TreasureWalk$Cells", name := "has", desc := "(I)Z" } : Jvm.MethodName))) := by decide +kernel
theorem tw_w740 : lw_tbl[740]? = some ((Jvm.Cond.methodLink "TreasureWalk$Trails" (112 : Nat) ({ cls := "TreasureWalk$Trails", name := "followLeg", desc := "(III)V" } : Jvm.MethodName))) := by decide +kernel
theorem tw_w742 : lw_tbl[742]? = some ((Jvm.Cond.instanceMethod ({ cls := "TreasureWalk$Trails", name := "followLeg", desc := "(III)V" } : Jvm.MethodName))) := by decide +kernel
theorem tw_w743 : lw_tbl[743]? = some ((Jvm.Cond.code ({ cls := "TreasureWalk$Trails", name := "followLeg", desc := "(III)V" } : Jvm.MethodName) prog_12_method_6_code (8 : Nat) (Option.none : Option Jvm.ClassFile.FieldType))) := by decide +kernel
theorem tw_w744 : lw_tbl[744]? = some ((Jvm.Cond.methodLink "TreasureWalk$Trails" (119 : Nat) ({ cls := "TreasureWalk$Trails", name := "canEnd", desc := "(III)Z" } : Jvm.MethodName))) := by decide +kernel
theorem tw_w746 : lw_tbl[746]? = some ((Jvm.Cond.instanceMethod ({ cls := "TreasureWalk$Trails", name := "canEnd", desc := "(III)Z" } : Jvm.MethodName))) := by decide +kernel
theorem tw_w747 : lw_tbl[747]? = some ((Jvm.Cond.code ({ cls := "TreasureWalk$Trails", name := "canEnd", desc := "(III)Z" } : Jvm.MethodName) prog_12_method_7_code (6 : Nat) (Option.some Jvm.ClassFile.FieldType.boolean))) := by decide +kernel
theorem tw_w748 : lw_tbl[748]? = some ((Jvm.Cond.methodLink "TreasureWalk$Trails" (125 : Nat) ({ cls := "TreasureWalk$Trails", name := "step", desc := "(II)I" } : Jvm.MethodName))) := by decide +kernel
theorem tw_w749 : lw_tbl[749]? = some ((Jvm.Cond.instanceMethod ({ cls := "TreasureWalk$Trails", name := "step", desc := "(II)I" } : Jvm.MethodName))) := by decide +kernel
theorem tw_w750 : lw_tbl[750]? = some ((Jvm.Cond.selects "TreasureWalk$Trails" ({ cls := "TreasureWalk$Trails", name := "step", desc := "(II)I" } : Jvm.MethodName) ({ cls := "TreasureWalk$Trails", name := "step", desc := "(II)I" } : Jvm.MethodName))) := by decide +kernel
theorem tw_w751 : lw_tbl[751]? = some ((Jvm.Cond.code ({ cls := "TreasureWalk$Trails", name := "step", desc := "(II)I" } : Jvm.MethodName) prog_12_method_4_code (4 : Nat) (Option.some Jvm.ClassFile.FieldType.int))) := by decide +kernel
theorem tw_w752 : lw_tbl[752]? = some ((Jvm.Cond.methodLinkNest "TreasureWalk$Trails" (82 : Nat) ({ cls := "TreasureWalk", name := "neighbour", desc := "(II)I" } : Jvm.MethodName) "TreasureWalk")) := by decide +kernel
theorem tw_w754 : lw_tbl[754]? = some ((Jvm.Cond.instanceMethod ({ cls := "TreasureWalk", name := "checksum", desc := "()J" } : Jvm.MethodName))) := by decide +kernel
theorem tw_w755 : lw_tbl[755]? = some ((Jvm.Cond.selects "TreasureWalk" ({ cls := "TreasureWalk", name := "checksum", desc := "()J" } : Jvm.MethodName) ({ cls := "TreasureWalk", name := "checksum", desc := "()J" } : Jvm.MethodName))) := by decide +kernel
theorem tw_w756 : lw_tbl[756]? = some ((Jvm.Cond.code ({ cls := "TreasureWalk", name := "checksum", desc := "()J" } : Jvm.MethodName) prog_1_method_25_code (5 : Nat) (Option.some Jvm.ClassFile.FieldType.long))) := by decide +kernel
theorem tw_w757 : lw_tbl[757]? = some ((Jvm.Cond.constantLong "TreasureWalk" (260 : Nat) (31 : Int64))) := by decide +kernel
theorem tw_w758 : lw_tbl[758]? = some ((Jvm.Cond.methodLink "TreasureWalk" (262 : Nat) ({ cls := "TreasureWalk", name := "state", desc := "(I)I" } : Jvm.MethodName))) := by decide +kernel
theorem tw_w759 : lw_tbl[759]? = some ((Jvm.Cond.instanceMethod ({ cls := "TreasureWalk", name := "state", desc := "(I)I" } : Jvm.MethodName))) := by decide +kernel
theorem tw_w760 : lw_tbl[760]? = some ((Jvm.Cond.selects "TreasureWalk" ({ cls := "TreasureWalk", name := "state", desc := "(I)I" } : Jvm.MethodName) ({ cls := "TreasureWalk", name := "state", desc := "(I)I" } : Jvm.MethodName))) := by decide +kernel
theorem tw_w761 : lw_tbl[761]? = some ((Jvm.Cond.code ({ cls := "TreasureWalk", name := "state", desc := "(I)I" } : Jvm.MethodName) prog_1_method_5_code (2 : Nat) (Option.some Jvm.ClassFile.FieldType.int))) := by decide +kernel
theorem tw_w762 : lw_tbl[762]? = some ((Jvm.Cond.methodLink "TreasureWalk" (118 : Nat) ({ cls := "TreasureWalk$Data", name := "countMarks", desc := "()I" } : Jvm.MethodName))) := by decide +kernel
theorem tw_w763 : lw_tbl[763]? = some ((Jvm.Cond.instanceMethod ({ cls := "TreasureWalk$Data", name := "countMarks", desc := "()I" } : Jvm.MethodName))) := by decide +kernel
theorem tw_w764 : lw_tbl[764]? = some ((Jvm.Cond.selects "TreasureWalk$Data" ({ cls := "TreasureWalk$Data", name := "countMarks", desc := "()I" } : Jvm.MethodName) ({ cls := "TreasureWalk$Data", name := "countMarks", desc := "()I" } : Jvm.MethodName))) := by decide +kernel
theorem tw_w765 : lw_tbl[765]? = some ((Jvm.Cond.code ({ cls := "TreasureWalk$Data", name := "countMarks", desc := "()I" } : Jvm.MethodName) prog_4_method_4_code (3 : Nat) (Option.some Jvm.ClassFile.FieldType.int))) := by decide +kernel
theorem tw_w766 : lw_tbl[766]? = some ((Jvm.Cond.methodLink "TreasureWalk$Data" (89 : Nat) ({ cls := "TreasureWalk$Row", name := "get", desc := "(I)I" } : Jvm.MethodName))) := by decide +kernel
theorem tw_w767 : lw_tbl[767]? = some ((Jvm.Cond.methodLink "TreasureWalk" (125 : Nat) ({ cls := "TreasureWalk$Clues", name := "countUsed", desc := "()I" } : Jvm.MethodName))) := by decide +kernel
theorem tw_w768 : lw_tbl[768]? = some ((Jvm.Cond.instanceMethod ({ cls := "TreasureWalk$Clues", name := "countUsed", desc := "()I" } : Jvm.MethodName))) := by decide +kernel
theorem tw_w769 : lw_tbl[769]? = some ((Jvm.Cond.selects "TreasureWalk$Clues" ({ cls := "TreasureWalk$Clues", name := "countUsed", desc := "()I" } : Jvm.MethodName) ({ cls := "TreasureWalk$Clues", name := "countUsed", desc := "()I" } : Jvm.MethodName))) := by decide +kernel
theorem tw_w770 : lw_tbl[770]? = some ((Jvm.Cond.code ({ cls := "TreasureWalk$Clues", name := "countUsed", desc := "()I" } : Jvm.MethodName) prog_3_method_4_code (3 : Nat) (Option.some Jvm.ClassFile.FieldType.int))) := by decide +kernel
theorem tw_w771 : lw_tbl[771]? = some ((Jvm.Cond.methodLink "TreasureWalk$Clues" (55 : Nat) ({ cls := "TreasureWalk$Clues", name := "isUsed", desc := "(I)Z" } : Jvm.MethodName))) := by decide +kernel
theorem tw_w772 : lw_tbl[772]? = some ((Jvm.Cond.methodLink "TreasureWalk" (128 : Nat) ({ cls := "TreasureWalk$Survey", name := "candidates", desc := "()LTreasureWalk$Cells;" } : Jvm.MethodName))) := by decide +kernel
theorem tw_w773 : lw_tbl[773]? = some ((Jvm.Cond.methodLink "TreasureWalk" (132 : Nat) ({ cls := "TreasureWalk$Cells", name := "count", desc := "()I" } : Jvm.MethodName))) := by decide +kernel
theorem tw_w774 : lw_tbl[774]? = some ((Jvm.Cond.methodLink "TreasureWalk" (143 : Nat) ({ cls := "TreasureWalk$Survey", name := "countParts", desc := "()I" } : Jvm.MethodName))) := by decide +kernel
theorem tw_w775 : lw_tbl[775]? = some ((Jvm.Cond.instanceMethod ({ cls := "TreasureWalk$Survey", name := "countParts", desc := "()I" } : Jvm.MethodName))) := by decide +kernel
theorem tw_w776 : lw_tbl[776]? = some ((Jvm.Cond.selects "TreasureWalk$Survey" ({ cls := "TreasureWalk$Survey", name := "countParts", desc := "()I" } : Jvm.MethodName) ({ cls := "TreasureWalk$Survey", name := "countParts", desc := "()I" } : Jvm.MethodName))) := by decide +kernel
theorem tw_w777 : lw_tbl[777]? = some ((Jvm.Cond.code ({ cls := "TreasureWalk$Survey", name := "countParts", desc := "()I" } : Jvm.MethodName) prog_10_method_5_code (4 : Nat) (Option.some Jvm.ClassFile.FieldType.int))) := by decide +kernel
theorem tw_w846 : lw_tbl[846]? = some ((Jvm.Cond.methodLink "TreasureWalk" (265 : Nat) ({ cls := "TreasureWalk", name := "cell", desc := "(II)I" } : Jvm.MethodName))) := by decide +kernel
theorem tw_w847 : lw_tbl[847]? = some ((Jvm.Cond.instanceMethod ({ cls := "TreasureWalk", name := "cell", desc := "(II)I" } : Jvm.MethodName))) := by decide +kernel
theorem tw_w848 : lw_tbl[848]? = some ((Jvm.Cond.selects "TreasureWalk" ({ cls := "TreasureWalk", name := "cell", desc := "(II)I" } : Jvm.MethodName) ({ cls := "TreasureWalk", name := "cell", desc := "(II)I" } : Jvm.MethodName))) := by decide +kernel
theorem tw_w849 : lw_tbl[849]? = some ((Jvm.Cond.code ({ cls := "TreasureWalk", name := "cell", desc := "(II)I" } : Jvm.MethodName) prog_1_method_6_code (5 : Nat) (Option.some Jvm.ClassFile.FieldType.int))) := by decide +kernel
theorem tw_w850 : lw_tbl[850]? = some ((Jvm.Cond.methodLink "TreasureWalk" (157 : Nat) ({ cls := "TreasureWalk", name := "checkedSpot", desc := "(II)I" } : Jvm.MethodName))) := by decide +kernel
theorem tw_w852 : lw_tbl[852]? = some ((Jvm.Cond.instanceMethod ({ cls := "TreasureWalk", name := "checkedSpot", desc := "(II)I" } : Jvm.MethodName))) := by decide +kernel
theorem tw_w853 : lw_tbl[853]? = some ((Jvm.Cond.code ({ cls := "TreasureWalk", name := "checkedSpot", desc := "(II)I" } : Jvm.MethodName) prog_1_method_26_code (3 : Nat) (Option.some Jvm.ClassFile.FieldType.int))) := by decide +kernel
theorem tw_w870 : lw_tbl[870]? = some ((Jvm.Cond.methodLink "TreasureWalk" (268 : Nat) ({ cls := "TreasureWalk$Clues", name := "isUsed", desc := "(I)Z" } : Jvm.MethodName))) := by decide +kernel
theorem tw_w871 : lw_tbl[871]? = some ((Jvm.Cond.methodLink "TreasureWalk" (179 : Nat) ({ cls := "TreasureWalk$Row", name := "get", desc := "(I)I" } : Jvm.MethodName))) := by decide +kernel
theorem tw_w872 : lw_tbl[872]? = some ((Jvm.Cond.methodLink "TreasureWalk" (271 : Nat) ({ cls := "TreasureWalk", name := "reached", desc := "(II)I" } : Jvm.MethodName))) := by decide +kernel
theorem tw_w873 : lw_tbl[873]? = some ((Jvm.Cond.instanceMethod ({ cls := "TreasureWalk", name := "reached", desc := "(II)I" } : Jvm.MethodName))) := by decide +kernel
theorem tw_w874 : lw_tbl[874]? = some ((Jvm.Cond.selects "TreasureWalk" ({ cls := "TreasureWalk", name := "reached", desc := "(II)I" } : Jvm.MethodName) ({ cls := "TreasureWalk", name := "reached", desc := "(II)I" } : Jvm.MethodName))) := by decide +kernel
theorem tw_w875 : lw_tbl[875]? = some ((Jvm.Cond.code ({ cls := "TreasureWalk", name := "reached", desc := "(II)I" } : Jvm.MethodName) prog_1_method_8_code (3 : Nat) (Option.some Jvm.ClassFile.FieldType.int))) := by decide +kernel
theorem tw_w876 : lw_tbl[876]? = some ((Jvm.Cond.methodLink "TreasureWalk" (172 : Nat) ({ cls := "TreasureWalk", name := "checkClue", desc := "(I)V" } : Jvm.MethodName))) := by decide +kernel
theorem tw_w878 : lw_tbl[878]? = some ((Jvm.Cond.instanceMethod ({ cls := "TreasureWalk", name := "checkClue", desc := "(I)V" } : Jvm.MethodName))) := by decide +kernel
theorem tw_w879 : lw_tbl[879]? = some ((Jvm.Cond.code ({ cls := "TreasureWalk", name := "checkClue", desc := "(I)V" } : Jvm.MethodName) prog_1_method_27_code (2 : Nat) (Option.none : Option Jvm.ClassFile.FieldType))) := by decide +kernel
theorem tw_w882 : lw_tbl[882]? = some ((Jvm.Cond.methodLink "TreasureWalk" (186 : Nat) ({ cls := "TreasureWalk$Trails", name := "layer", desc := "(II)LTreasureWalk$Cells;" } : Jvm.MethodName))) := by decide +kernel
theorem tw_w888 : lw_tbl[888]? = some ((Jvm.Cond.instanceMethod ({ cls := "TreasureWalk", name := "load", desc := "(I)I" } : Jvm.MethodName))) := by decide +kernel
theorem tw_w889 : lw_tbl[889]? = some ((Jvm.Cond.selects "TreasureWalk" ({ cls := "TreasureWalk", name := "load", desc := "(I)I" } : Jvm.MethodName) ({ cls := "TreasureWalk", name := "load", desc := "(I)I" } : Jvm.MethodName))) := by decide +kernel
theorem tw_w890 : lw_tbl[890]? = some ((Jvm.Cond.code ({ cls := "TreasureWalk", name := "load", desc := "(I)I" } : Jvm.MethodName) prog_1_method_3_code (3 : Nat) (Option.some Jvm.ClassFile.FieldType.int))) := by decide +kernel
theorem tw_w892 : lw_tbl[892]? = some ((Jvm.Cond.methodLink "TreasureWalk" (86 : Nat) ({ cls := "TreasureWalk$Reader", name := "read", desc := "(I)I" } : Jvm.MethodName))) := by decide +kernel
theorem tw_w893 : lw_tbl[893]? = some ((Jvm.Cond.instanceMethod ({ cls := "TreasureWalk$Reader", name := "read", desc := "(I)I" } : Jvm.MethodName))) := by decide +kernel
theorem tw_w894 : lw_tbl[894]? = some ((Jvm.Cond.selects "TreasureWalk$Reader" ({ cls := "TreasureWalk$Reader", name := "read", desc := "(I)I" } : Jvm.MethodName) ({ cls := "TreasureWalk$Reader", name := "read", desc := "(I)I" } : Jvm.MethodName))) := by decide +kernel
theorem tw_w895 : lw_tbl[895]? = some ((Jvm.Cond.code ({ cls := "TreasureWalk$Reader", name := "read", desc := "(I)I" } : Jvm.MethodName) prog_8_method_3_code (3 : Nat) (Option.some Jvm.ClassFile.FieldType.int))) := by decide +kernel
theorem tw_w896 : lw_tbl[896]? = some ((Jvm.Cond.methodLink "TreasureWalk$Reader" (47 : Nat) ({ cls := "TreasureWalk$Reader", name := "advance", desc := "()V" } : Jvm.MethodName))) := by decide +kernel
theorem tw_w898 : lw_tbl[898]? = some ((Jvm.Cond.instanceMethod ({ cls := "TreasureWalk$Reader", name := "advance", desc := "()V" } : Jvm.MethodName))) := by decide +kernel
theorem tw_w899 : lw_tbl[899]? = some ((Jvm.Cond.code ({ cls := "TreasureWalk$Reader", name := "advance", desc := "()V" } : Jvm.MethodName) prog_8_method_22_code (1 : Nat) (Option.none : Option Jvm.ClassFile.FieldType))) := by decide +kernel
theorem tw_w900 : lw_tbl[900]? = some ((Jvm.Cond.methodLink "TreasureWalk$Reader" (160 : Nat) ({ cls := "TreasureWalk$Row", name := "get", desc := "(I)I" } : Jvm.MethodName))) := by decide +kernel
theorem tw_w901 : lw_tbl[901]? = some ((Jvm.Cond.methodLink "TreasureWalk$Reader" (271 : Nat) ({ cls := "TreasureWalk$Reader", name := "kindOf", desc := "(I)I" } : Jvm.MethodName))) := by decide +kernel
theorem tw_w902 : lw_tbl[902]? = some ((Jvm.Cond.static ({ cls := "TreasureWalk$Reader", name := "kindOf", desc := "(I)I" } : Jvm.MethodName))) := by decide +kernel
theorem tw_w903 : lw_tbl[903]? = some ((Jvm.Cond.code ({ cls := "TreasureWalk$Reader", name := "kindOf", desc := "(I)I" } : Jvm.MethodName) prog_8_method_23_code (1 : Nat) (Option.some Jvm.ClassFile.FieldType.int))) := by decide +kernel
theorem tw_w904 : lw_tbl[904]? = some ((Jvm.Cond.methodLink "TreasureWalk$Reader" (50 : Nat) ({ cls := "TreasureWalk$Reader", name := "readMap", desc := "()V" } : Jvm.MethodName))) := by decide +kernel
theorem tw_w906 : lw_tbl[906]? = some ((Jvm.Cond.instanceMethod ({ cls := "TreasureWalk$Reader", name := "readMap", desc := "()V" } : Jvm.MethodName))) := by decide +kernel
theorem tw_w907 : lw_tbl[907]? = some ((Jvm.Cond.code ({ cls := "TreasureWalk$Reader", name := "readMap", desc := "()V" } : Jvm.MethodName) prog_8_method_4_code (3 : Nat) (Option.none : Option Jvm.ClassFile.FieldType))) := by decide +kernel
theorem tw_w909 : lw_tbl[909]? = some ((Jvm.Cond.methodLink "TreasureWalk$Reader" (105 : Nat) ({ cls := "TreasureWalk$Reader", name := "takeWord", desc := "(Ljava/lang/String;)V" } : Jvm.MethodName))) := by decide +kernel
theorem tw_w911 : lw_tbl[911]? = some ((Jvm.Cond.instanceMethod ({ cls := "TreasureWalk$Reader", name := "takeWord", desc := "(Ljava/lang/String;)V" } : Jvm.MethodName))) := by decide +kernel
theorem tw_w912 : lw_tbl[912]? = some ((Jvm.Cond.code ({ cls := "TreasureWalk$Reader", name := "takeWord", desc := "(Ljava/lang/String;)V" } : Jvm.MethodName) prog_8_method_19_code (2 : Nat) (Option.none : Option Jvm.ClassFile.FieldType))) := by decide +kernel
theorem tw_w913 : lw_tbl[913]? = some ((Jvm.Cond.methodLink "TreasureWalk$Reader" (58 : Nat) ({ cls := "TreasureWalk$Reader", name := "isWord", desc := "(Ljava/lang/String;)Z" } : Jvm.MethodName))) := by decide +kernel
theorem tw_w915 : lw_tbl[915]? = some ((Jvm.Cond.instanceMethod ({ cls := "TreasureWalk$Reader", name := "isWord", desc := "(Ljava/lang/String;)Z" } : Jvm.MethodName))) := by decide +kernel
theorem tw_w916 : lw_tbl[916]? = some ((Jvm.Cond.code ({ cls := "TreasureWalk$Reader", name := "isWord", desc := "(Ljava/lang/String;)Z" } : Jvm.MethodName) prog_8_method_21_code (3 : Nat) (Option.some Jvm.ClassFile.FieldType.boolean))) := by decide +kernel
theorem tw_w917 : lw_tbl[917]? = some ((Jvm.Cond.methodLink "TreasureWalk$Reader" (263 : Nat) ({ cls := "java/lang/String", name := "length", desc := "()I" } : Jvm.MethodName))) := by decide +kernel
theorem tw_w927 : lw_tbl[927]? = some ((Jvm.Cond.methodLink "TreasureWalk$Reader" (267 : Nat) ({ cls := "java/lang/String", name := "charAt", desc := "(I)C" } : Jvm.MethodName))) := by decide +kernel
theorem tw_w965 : lw_tbl[965]? = some ((Jvm.Cond.methodLink "TreasureWalk$Reader" (88 : Nat) ({ cls := "TreasureWalk$Reader", name := "fail", desc := "(II)V" } : Jvm.MethodName))) := by decide +kernel
theorem tw_w967 : lw_tbl[967]? = some ((Jvm.Cond.instanceMethod ({ cls := "TreasureWalk$Reader", name := "fail", desc := "(II)V" } : Jvm.MethodName))) := by decide +kernel
theorem tw_w968 : lw_tbl[968]? = some ((Jvm.Cond.code ({ cls := "TreasureWalk$Reader", name := "fail", desc := "(II)V" } : Jvm.MethodName) prog_8_method_24_code (3 : Nat) (Option.none : Option Jvm.ClassFile.FieldType))) := by decide +kernel
theorem tw_w969 : lw_tbl[969]? = some ((Jvm.Cond.methodLink "TreasureWalk$Reader" (109 : Nat) ({ cls := "TreasureWalk$Reader", name := "takeNumber", desc := "(II)I" } : Jvm.MethodName))) := by decide +kernel
theorem tw_w971 : lw_tbl[971]? = some ((Jvm.Cond.instanceMethod ({ cls := "TreasureWalk$Reader", name := "takeNumber", desc := "(II)I" } : Jvm.MethodName))) := by decide +kernel
theorem tw_w972 : lw_tbl[972]? = some ((Jvm.Cond.code ({ cls := "TreasureWalk$Reader", name := "takeNumber", desc := "(II)I" } : Jvm.MethodName) prog_8_method_18_code (5 : Nat) (Option.some Jvm.ClassFile.FieldType.int))) := by decide +kernel
theorem tw_w973 : lw_tbl[973]? = some ((Jvm.Cond.methodLink "TreasureWalk$Reader" (260 : Nat) ({ cls := "java/lang/Math", name := "min", desc := "(II)I" } : Jvm.MethodName))) := by decide +kernel
theorem tw_w974 : lw_tbl[974]? = some ((Jvm.Cond.methodLink "TreasureWalk$Reader" (113 : Nat) ({ cls := "TreasureWalk$Reader", name := "takeSemicolon", desc := "()V" } : Jvm.MethodName))) := by decide +kernel
theorem tw_w976 : lw_tbl[976]? = some ((Jvm.Cond.instanceMethod ({ cls := "TreasureWalk$Reader", name := "takeSemicolon", desc := "()V" } : Jvm.MethodName))) := by decide +kernel
theorem tw_w977 : lw_tbl[977]? = some ((Jvm.Cond.code ({ cls := "TreasureWalk$Reader", name := "takeSemicolon", desc := "()V" } : Jvm.MethodName) prog_8_method_20_code (1 : Nat) (Option.none : Option Jvm.ClassFile.FieldType))) := by decide +kernel
theorem tw_w978 : lw_tbl[978]? = some ((Jvm.Cond.methodLink "TreasureWalk$Reader" (116 : Nat) ({ cls := "TreasureWalk$Data", name := "begin", desc := "(II)V" } : Jvm.MethodName))) := by decide +kernel
theorem tw_w980 : lw_tbl[980]? = some ((Jvm.Cond.methodLink "TreasureWalk$Reader" (62 : Nat) ({ cls := "TreasureWalk$Reader", name := "readWater", desc := "()V" } : Jvm.MethodName))) := by decide +kernel
theorem tw_w982 : lw_tbl[982]? = some ((Jvm.Cond.instanceMethod ({ cls := "TreasureWalk$Reader", name := "readWater", desc := "()V" } : Jvm.MethodName))) := by decide +kernel
theorem tw_w983 : lw_tbl[983]? = some ((Jvm.Cond.code ({ cls := "TreasureWalk$Reader", name := "readWater", desc := "()V" } : Jvm.MethodName) prog_8_method_5_code (2 : Nat) (Option.none : Option Jvm.ClassFile.FieldType))) := by decide +kernel
theorem tw_w984 : lw_tbl[984]? = some ((Jvm.Cond.methodLink "TreasureWalk$Reader" (119 : Nat) ({ cls := "TreasureWalk$Reader", name := "readArea", desc := "()V" } : Jvm.MethodName))) := by decide +kernel
theorem tw_w986 : lw_tbl[986]? = some ((Jvm.Cond.instanceMethod ({ cls := "TreasureWalk$Reader", name := "readArea", desc := "()V" } : Jvm.MethodName))) := by decide +kernel
theorem tw_w987 : lw_tbl[987]? = some ((Jvm.Cond.code ({ cls := "TreasureWalk$Reader", name := "readArea", desc := "()V" } : Jvm.MethodName) prog_8_method_13_code (5 : Nat) (Option.none : Option Jvm.ClassFile.FieldType))) := by decide +kernel
theorem tw_w988 : lw_tbl[988]? = some ((Jvm.Cond.methodLinkNest "TreasureWalk$Reader" (237 : Nat) ({ cls := "TreasureWalk", name := "spotAt", desc := "(II)I" } : Jvm.MethodName) "TreasureWalk")) := by decide +kernel
theorem tw_w989 : lw_tbl[989]? = some ((Jvm.Cond.methodLink "TreasureWalk$Reader" (128 : Nat) ({ cls := "TreasureWalk$Data", name := "standsOnMark", desc := "(II)Z" } : Jvm.MethodName))) := by decide +kernel
theorem tw_w990 : lw_tbl[990]? = some ((Jvm.Cond.instanceMethod ({ cls := "TreasureWalk$Data", name := "standsOnMark", desc := "(II)Z" } : Jvm.MethodName))) := by decide +kernel
theorem tw_w991 : lw_tbl[991]? = some ((Jvm.Cond.selects "TreasureWalk$Data" ({ cls := "TreasureWalk$Data", name := "standsOnMark", desc := "(II)Z" } : Jvm.MethodName) ({ cls := "TreasureWalk$Data", name := "standsOnMark", desc := "(II)Z" } : Jvm.MethodName))) := by decide +kernel
theorem tw_w992 : lw_tbl[992]? = some ((Jvm.Cond.code ({ cls := "TreasureWalk$Data", name := "standsOnMark", desc := "(II)Z" } : Jvm.MethodName) prog_4_method_5_code (4 : Nat) (Option.some Jvm.ClassFile.FieldType.boolean))) := by decide +kernel
theorem tw_w993 : lw_tbl[993]? = some ((Jvm.Cond.methodLinkNest "TreasureWalk$Data" (92 : Nat) ({ cls := "TreasureWalk", name := "isBetween", desc := "(III)Z" } : Jvm.MethodName) "TreasureWalk")) := by decide +kernel
theorem tw_w994 : lw_tbl[994]? = some ((Jvm.Cond.methodLinkNest "TreasureWalk$Reader" (132 : Nat) ({ cls := "TreasureWalk", name := "isBetween", desc := "(III)Z" } : Jvm.MethodName) "TreasureWalk")) := by decide +kernel
theorem tw_w995 : lw_tbl[995]? = some ((Jvm.Cond.methodLink "TreasureWalk$Reader" (136 : Nat) ({ cls := "TreasureWalk$Data", name := "flood", desc := "(II)V" } : Jvm.MethodName))) := by decide +kernel
theorem tw_w996 : lw_tbl[996]? = some ((Jvm.Cond.instanceMethod ({ cls := "TreasureWalk$Data", name := "flood", desc := "(II)V" } : Jvm.MethodName))) := by decide +kernel
theorem tw_w997 : lw_tbl[997]? = some ((Jvm.Cond.selects "TreasureWalk$Data" ({ cls := "TreasureWalk$Data", name := "flood", desc := "(II)V" } : Jvm.MethodName) ({ cls := "TreasureWalk$Data", name := "flood", desc := "(II)V" } : Jvm.MethodName))) := by decide +kernel
theorem tw_w998 : lw_tbl[998]? = some ((Jvm.Cond.code ({ cls := "TreasureWalk$Data", name := "flood", desc := "(II)V" } : Jvm.MethodName) prog_4_method_6_code (4 : Nat) (Option.none : Option Jvm.ClassFile.FieldType))) := by decide +kernel
theorem tw_w999 : lw_tbl[999]? = some ((Jvm.Cond.methodLink "TreasureWalk$Data" (96 : Nat) ({ cls := "TreasureWalk$Cells", name := "remove", desc := "(I)V" } : Jvm.MethodName))) := by decide +kernel
theorem tw_w1000 : lw_tbl[1000]? = some ((Jvm.Cond.instanceMethod ({ cls := "TreasureWalk$Cells", name := "remove", desc := "(I)V" } : Jvm.MethodName))) := by decide +kernel
theorem tw_w1001 : lw_tbl[1001]? = some ((Jvm.Cond.selects "TreasureWalk$Cells" ({ cls := "TreasureWalk$Cells", name := "remove", desc := "(I)V" } : Jvm.MethodName) ({ cls := "TreasureWalk$Cells", name := "remove", desc := "(I)V" } : Jvm.MethodName))) := by decide +kernel
theorem tw_w1002 : lw_tbl[1002]? = some ((Jvm.Cond.code ({ cls := "TreasureWalk$Cells", name := "remove", desc := "(I)V" } : Jvm.MethodName) prog_2_method_4_code (3 : Nat) (Option.none : Option Jvm.ClassFile.FieldType))) := by decide +kernel
theorem tw_w1003 : lw_tbl[1003]? = some ((Jvm.Cond.methodLink "TreasureWalk$Reader" (139 : Nat) ({ cls := "TreasureWalk$Cells", name := "count", desc := "()I" } : Jvm.MethodName))) := by decide +kernel
theorem tw_w1005 : lw_tbl[1005]? = some ((Jvm.Cond.methodLink "TreasureWalk$Reader" (67 : Nat) ({ cls := "TreasureWalk$Reader", name := "readBend", desc := "()V" } : Jvm.MethodName))) := by decide +kernel
theorem tw_w1007 : lw_tbl[1007]? = some ((Jvm.Cond.instanceMethod ({ cls := "TreasureWalk$Reader", name := "readBend", desc := "()V" } : Jvm.MethodName))) := by decide +kernel
theorem tw_w1008 : lw_tbl[1008]? = some ((Jvm.Cond.code ({ cls := "TreasureWalk$Reader", name := "readBend", desc := "()V" } : Jvm.MethodName) prog_8_method_6_code (3 : Nat) (Option.none : Option Jvm.ClassFile.FieldType))) := by decide +kernel
theorem tw_w1011 : lw_tbl[1011]? = some ((Jvm.Cond.methodLink "TreasureWalk$Reader" (150 : Nat) ({ cls := "TreasureWalk$Data", name := "addBend", desc := "(III)V" } : Jvm.MethodName))) := by decide +kernel
theorem tw_w1012 : lw_tbl[1012]? = some ((Jvm.Cond.instanceMethod ({ cls := "TreasureWalk$Data", name := "addBend", desc := "(III)V" } : Jvm.MethodName))) := by decide +kernel
theorem tw_w1013 : lw_tbl[1013]? = some ((Jvm.Cond.selects "TreasureWalk$Data" ({ cls := "TreasureWalk$Data", name := "addBend", desc := "(III)V" } : Jvm.MethodName) ({ cls := "TreasureWalk$Data", name := "addBend", desc := "(III)V" } : Jvm.MethodName))) := by decide +kernel
theorem tw_w1014 : lw_tbl[1014]? = some ((Jvm.Cond.code ({ cls := "TreasureWalk$Data", name := "addBend", desc := "(III)V" } : Jvm.MethodName) prog_4_method_7_code (4 : Nat) (Option.none : Option Jvm.ClassFile.FieldType))) := by decide +kernel
theorem tw_w1015 : lw_tbl[1015]? = some ((Jvm.Cond.methodLink "TreasureWalk$Data" (99 : Nat) ({ cls := "TreasureWalk$Row", name := "put", desc := "(II)V" } : Jvm.MethodName))) := by decide +kernel
theorem tw_w1017 : lw_tbl[1017]? = some ((Jvm.Cond.methodLink "TreasureWalk$Reader" (72 : Nat) ({ cls := "TreasureWalk$Reader", name := "readMark", desc := "()V" } : Jvm.MethodName))) := by decide +kernel
theorem tw_w1019 : lw_tbl[1019]? = some ((Jvm.Cond.instanceMethod ({ cls := "TreasureWalk$Reader", name := "readMark", desc := "()V" } : Jvm.MethodName))) := by decide +kernel
theorem tw_w1020 : lw_tbl[1020]? = some ((Jvm.Cond.code ({ cls := "TreasureWalk$Reader", name := "readMark", desc := "()V" } : Jvm.MethodName) prog_8_method_7_code (2 : Nat) (Option.none : Option Jvm.ClassFile.FieldType))) := by decide +kernel
theorem tw_w1021 : lw_tbl[1021]? = some ((Jvm.Cond.methodLink "TreasureWalk$Reader" (154 : Nat) ({ cls := "TreasureWalk$Reader", name := "markAhead", desc := "()I" } : Jvm.MethodName))) := by decide +kernel
theorem tw_w1023 : lw_tbl[1023]? = some ((Jvm.Cond.instanceMethod ({ cls := "TreasureWalk$Reader", name := "markAhead", desc := "()I" } : Jvm.MethodName))) := by decide +kernel
theorem tw_w1024 : lw_tbl[1024]? = some ((Jvm.Cond.code ({ cls := "TreasureWalk$Reader", name := "markAhead", desc := "()I" } : Jvm.MethodName) prog_8_method_16_code (2 : Nat) (Option.some Jvm.ClassFile.FieldType.int))) := by decide +kernel
theorem tw_w1025 : lw_tbl[1025]? = some ((Jvm.Cond.methodLink "TreasureWalk$Reader" (163 : Nat) ({ cls := "TreasureWalk$Reader", name := "takeLandSpot", desc := "()I" } : Jvm.MethodName))) := by decide +kernel
theorem tw_w1027 : lw_tbl[1027]? = some ((Jvm.Cond.instanceMethod ({ cls := "TreasureWalk$Reader", name := "takeLandSpot", desc := "()I" } : Jvm.MethodName))) := by decide +kernel
theorem tw_w1028 : lw_tbl[1028]? = some ((Jvm.Cond.code ({ cls := "TreasureWalk$Reader", name := "takeLandSpot", desc := "()I" } : Jvm.MethodName) prog_8_method_14_code (5 : Nat) (Option.some Jvm.ClassFile.FieldType.int))) := by decide +kernel
theorem tw_w1029 : lw_tbl[1029]? = some ((Jvm.Cond.methodLink "TreasureWalk$Reader" (240 : Nat) ({ cls := "TreasureWalk$Cells", name := "has", desc := "(I)Z" } : Jvm.MethodName))) := by decide +kernel
theorem tw_w1031 : lw_tbl[1031]? = some ((Jvm.Cond.methodLink "TreasureWalk$Reader" (77 : Nat) ({ cls := "TreasureWalk$Reader", name := "readTeam", desc := "()V" } : Jvm.MethodName))) := by decide +kernel
theorem tw_w1033 : lw_tbl[1033]? = some ((Jvm.Cond.instanceMethod ({ cls := "TreasureWalk$Reader", name := "readTeam", desc := "()V" } : Jvm.MethodName))) := by decide +kernel
theorem tw_w1034 : lw_tbl[1034]? = some ((Jvm.Cond.code ({ cls := "TreasureWalk$Reader", name := "readTeam", desc := "()V" } : Jvm.MethodName) prog_8_method_8_code (1 : Nat) (Option.none : Option Jvm.ClassFile.FieldType))) := by decide +kernel
theorem tw_w1036 : lw_tbl[1036]? = some ((Jvm.Cond.methodLink "TreasureWalk$Reader" (82 : Nat) ({ cls := "TreasureWalk$Reader", name := "readClue", desc := "()V" } : Jvm.MethodName))) := by decide +kernel
theorem tw_w1038 : lw_tbl[1038]? = some ((Jvm.Cond.instanceMethod ({ cls := "TreasureWalk$Reader", name := "readClue", desc := "()V" } : Jvm.MethodName))) := by decide +kernel
theorem tw_w1039 : lw_tbl[1039]? = some ((Jvm.Cond.code ({ cls := "TreasureWalk$Reader", name := "readClue", desc := "()V" } : Jvm.MethodName) prog_8_method_9_code (3 : Nat) (Option.none : Option Jvm.ClassFile.FieldType))) := by decide +kernel
theorem tw_w1040 : lw_tbl[1040]? = some ((Jvm.Cond.methodLink "TreasureWalk$Reader" (174 : Nat) ({ cls := "TreasureWalk$Reader", name := "takeStart", desc := "()V" } : Jvm.MethodName))) := by decide +kernel
theorem tw_w1042 : lw_tbl[1042]? = some ((Jvm.Cond.instanceMethod ({ cls := "TreasureWalk$Reader", name := "takeStart", desc := "()V" } : Jvm.MethodName))) := by decide +kernel
theorem tw_w1043 : lw_tbl[1043]? = some ((Jvm.Cond.code ({ cls := "TreasureWalk$Reader", name := "takeStart", desc := "()V" } : Jvm.MethodName) prog_8_method_10_code (3 : Nat) (Option.none : Option Jvm.ClassFile.FieldType))) := by decide +kernel
theorem tw_w1044 : lw_tbl[1044]? = some ((Jvm.Cond.methodLink "TreasureWalk$Reader" (189 : Nat) ({ cls := "TreasureWalk$Reader", name := "takeKnownMark", desc := "()I" } : Jvm.MethodName))) := by decide +kernel
theorem tw_w1046 : lw_tbl[1046]? = some ((Jvm.Cond.instanceMethod ({ cls := "TreasureWalk$Reader", name := "takeKnownMark", desc := "()I" } : Jvm.MethodName))) := by decide +kernel
theorem tw_w1047 : lw_tbl[1047]? = some ((Jvm.Cond.code ({ cls := "TreasureWalk$Reader", name := "takeKnownMark", desc := "()I" } : Jvm.MethodName) prog_8_method_15_code (2 : Nat) (Option.some Jvm.ClassFile.FieldType.int))) := by decide +kernel
theorem tw_w1048 : lw_tbl[1048]? = some ((Jvm.Cond.methodLink "TreasureWalk$Reader" (192 : Nat) ({ cls := "TreasureWalk$Clues", name := "hasStart", desc := "(II)Z" } : Jvm.MethodName))) := by decide +kernel
theorem tw_w1049 : lw_tbl[1049]? = some ((Jvm.Cond.instanceMethod ({ cls := "TreasureWalk$Clues", name := "hasStart", desc := "(II)Z" } : Jvm.MethodName))) := by decide +kernel
theorem tw_w1050 : lw_tbl[1050]? = some ((Jvm.Cond.selects "TreasureWalk$Clues" ({ cls := "TreasureWalk$Clues", name := "hasStart", desc := "(II)Z" } : Jvm.MethodName) ({ cls := "TreasureWalk$Clues", name := "hasStart", desc := "(II)Z" } : Jvm.MethodName))) := by decide +kernel
theorem tw_w1051 : lw_tbl[1051]? = some ((Jvm.Cond.code ({ cls := "TreasureWalk$Clues", name := "hasStart", desc := "(II)Z" } : Jvm.MethodName) prog_3_method_6_code (4 : Nat) (Option.some Jvm.ClassFile.FieldType.boolean))) := by decide +kernel
theorem tw_w1052 : lw_tbl[1052]? = some ((Jvm.Cond.methodLink "TreasureWalk$Clues" (59 : Nat) ({ cls := "TreasureWalk$Clues", name := "startMark", desc := "(II)I" } : Jvm.MethodName))) := by decide +kernel
theorem tw_w1053 : lw_tbl[1053]? = some ((Jvm.Cond.methodLink "TreasureWalk$Reader" (195 : Nat) ({ cls := "TreasureWalk$Clues", name := "addStart", desc := "(II)V" } : Jvm.MethodName))) := by decide +kernel
theorem tw_w1054 : lw_tbl[1054]? = some ((Jvm.Cond.instanceMethod ({ cls := "TreasureWalk$Clues", name := "addStart", desc := "(II)V" } : Jvm.MethodName))) := by decide +kernel
theorem tw_w1055 : lw_tbl[1055]? = some ((Jvm.Cond.selects "TreasureWalk$Clues" ({ cls := "TreasureWalk$Clues", name := "addStart", desc := "(II)V" } : Jvm.MethodName) ({ cls := "TreasureWalk$Clues", name := "addStart", desc := "(II)V" } : Jvm.MethodName))) := by decide +kernel
theorem tw_w1056 : lw_tbl[1056]? = some ((Jvm.Cond.code ({ cls := "TreasureWalk$Clues", name := "addStart", desc := "(II)V" } : Jvm.MethodName) prog_3_method_7_code (4 : Nat) (Option.none : Option Jvm.ClassFile.FieldType))) := by decide +kernel
theorem tw_w1057 : lw_tbl[1057]? = some ((Jvm.Cond.methodLink "TreasureWalk$Clues" (63 : Nat) ({ cls := "TreasureWalk$Row", name := "put", desc := "(II)V" } : Jvm.MethodName))) := by decide +kernel
theorem tw_w1059 : lw_tbl[1059]? = some ((Jvm.Cond.methodLink "TreasureWalk$Reader" (179 : Nat) ({ cls := "TreasureWalk$Reader", name := "isLegAhead", desc := "()Z" } : Jvm.MethodName))) := by decide +kernel
theorem tw_w1061 : lw_tbl[1061]? = some ((Jvm.Cond.instanceMethod ({ cls := "TreasureWalk$Reader", name := "isLegAhead", desc := "()Z" } : Jvm.MethodName))) := by decide +kernel
theorem tw_w1062 : lw_tbl[1062]? = some ((Jvm.Cond.code ({ cls := "TreasureWalk$Reader", name := "isLegAhead", desc := "()Z" } : Jvm.MethodName) prog_8_method_11_code (1 : Nat) (Option.some Jvm.ClassFile.FieldType.boolean))) := by decide +kernel
theorem tw_w1066 : lw_tbl[1066]? = some ((Jvm.Cond.methodLink "TreasureWalk$Reader" (183 : Nat) ({ cls := "TreasureWalk$Reader", name := "readLeg", desc := "()V" } : Jvm.MethodName))) := by decide +kernel
theorem tw_w1068 : lw_tbl[1068]? = some ((Jvm.Cond.instanceMethod ({ cls := "TreasureWalk$Reader", name := "readLeg", desc := "()V" } : Jvm.MethodName))) := by decide +kernel
theorem tw_w1069 : lw_tbl[1069]? = some ((Jvm.Cond.code ({ cls := "TreasureWalk$Reader", name := "readLeg", desc := "()V" } : Jvm.MethodName) prog_8_method_12_code (9 : Nat) (Option.none : Option Jvm.ClassFile.FieldType))) := by decide +kernel
theorem tw_w1070 : lw_tbl[1070]? = some ((Jvm.Cond.methodLink "TreasureWalk$Reader" (206 : Nat) ({ cls := "TreasureWalk$Reader", name := "takeBearing", desc := "()I" } : Jvm.MethodName))) := by decide +kernel
theorem tw_w1072 : lw_tbl[1072]? = some ((Jvm.Cond.instanceMethod ({ cls := "TreasureWalk$Reader", name := "takeBearing", desc := "()I" } : Jvm.MethodName))) := by decide +kernel
theorem tw_w1073 : lw_tbl[1073]? = some ((Jvm.Cond.code ({ cls := "TreasureWalk$Reader", name := "takeBearing", desc := "()I" } : Jvm.MethodName) prog_8_method_17_code (2 : Nat) (Option.some Jvm.ClassFile.FieldType.int))) := by decide +kernel
theorem tw_w1083 : lw_tbl[1083]? = some ((Jvm.Cond.methodLink "TreasureWalk$Reader" (223 : Nat) ({ cls := "java/lang/Math", name := "max", desc := "(II)I" } : Jvm.MethodName))) := by decide +kernel
theorem tw_w1086 : lw_tbl[1086]? = some ((Jvm.Cond.methodLink "TreasureWalk$Reader" (97 : Nat) ({ cls := "TreasureWalk$Cells", name := "at", desc := "(I)I" } : Jvm.MethodName))) := by decide +kernel
theorem tw_w1087 : lw_tbl[1087]? = some ((Jvm.Cond.methodLink "TreasureWalk" (97 : Nat) ({ cls := "TreasureWalk$Data", name := "copyFrom", desc := "(LTreasureWalk$Data;)V" } : Jvm.MethodName))) := by decide +kernel
theorem tw_w1101 : lw_tbl[1101]? = some ((Jvm.Cond.instanceMethod ({ cls := "TreasureWalk", name := "pace", desc := "(III)I" } : Jvm.MethodName))) := by decide +kernel
theorem tw_w1102 : lw_tbl[1102]? = some ((Jvm.Cond.selects "TreasureWalk" ({ cls := "TreasureWalk", name := "pace", desc := "(III)I" } : Jvm.MethodName) ({ cls := "TreasureWalk", name := "pace", desc := "(III)I" } : Jvm.MethodName))) := by decide +kernel
theorem tw_w1103 : lw_tbl[1103]? = some ((Jvm.Cond.code ({ cls := "TreasureWalk", name := "pace", desc := "(III)I" } : Jvm.MethodName) prog_1_method_7_code (5 : Nat) (Option.some Jvm.ClassFile.FieldType.int))) := by decide +kernel
theorem tw_w1105 : lw_tbl[1105]? = some ((Jvm.Cond.methodLink "TreasureWalk" (169 : Nat) ({ cls := "TreasureWalk$Trails", name := "step", desc := "(II)I" } : Jvm.MethodName))) := by decide +kernel
theorem tw_w1114 : lw_tbl[1114]? = some ((Jvm.Cond.instanceMethod ({ cls := "TreasureWalk", name := "ends", desc := "(III)Z" } : Jvm.MethodName))) := by decide +kernel
theorem tw_w1115 : lw_tbl[1115]? = some ((Jvm.Cond.selects "TreasureWalk" ({ cls := "TreasureWalk", name := "ends", desc := "(III)Z" } : Jvm.MethodName) ({ cls := "TreasureWalk", name := "ends", desc := "(III)Z" } : Jvm.MethodName))) := by decide +kernel
theorem tw_w1116 : lw_tbl[1116]? = some ((Jvm.Cond.code ({ cls := "TreasureWalk", name := "ends", desc := "(III)Z" } : Jvm.MethodName) prog_1_method_9_code (4 : Nat) (Option.some Jvm.ClassFile.FieldType.boolean))) := by decide +kernel
theorem tw_w1117 : lw_tbl[1117]? = some ((Jvm.Cond.methodLink "TreasureWalk" (190 : Nat) ({ cls := "TreasureWalk$Trails", name := "region", desc := "(I)LTreasureWalk$Cells;" } : Jvm.MethodName))) := by decide +kernel
theorem tw_w1122 : lw_tbl[1122]? = some ((Jvm.Cond.instanceMethod ({ cls := "TreasureWalk", name := "why", desc := "(II)I" } : Jvm.MethodName))) := by decide +kernel
theorem tw_w1123 : lw_tbl[1123]? = some ((Jvm.Cond.selects "TreasureWalk" ({ cls := "TreasureWalk", name := "why", desc := "(II)I" } : Jvm.MethodName) ({ cls := "TreasureWalk", name := "why", desc := "(II)I" } : Jvm.MethodName))) := by decide +kernel
theorem tw_w1124 : lw_tbl[1124]? = some ((Jvm.Cond.code ({ cls := "TreasureWalk", name := "why", desc := "(II)I" } : Jvm.MethodName) prog_1_method_10_code (4 : Nat) (Option.some Jvm.ClassFile.FieldType.int))) := by decide +kernel
theorem tw_w1125 : lw_tbl[1125]? = some ((Jvm.Cond.methodLink "TreasureWalk" (194 : Nat) ({ cls := "TreasureWalk$Survey", name := "clueAgainst", desc := "(I)I" } : Jvm.MethodName))) := by decide +kernel
theorem tw_w1126 : lw_tbl[1126]? = some ((Jvm.Cond.instanceMethod ({ cls := "TreasureWalk$Survey", name := "clueAgainst", desc := "(I)I" } : Jvm.MethodName))) := by decide +kernel
theorem tw_w1127 : lw_tbl[1127]? = some ((Jvm.Cond.selects "TreasureWalk$Survey" ({ cls := "TreasureWalk$Survey", name := "clueAgainst", desc := "(I)I" } : Jvm.MethodName) ({ cls := "TreasureWalk$Survey", name := "clueAgainst", desc := "(I)I" } : Jvm.MethodName))) := by decide +kernel
theorem tw_w1128 : lw_tbl[1128]? = some ((Jvm.Cond.code ({ cls := "TreasureWalk$Survey", name := "clueAgainst", desc := "(I)I" } : Jvm.MethodName) prog_10_method_2_code (3 : Nat) (Option.some Jvm.ClassFile.FieldType.int))) := by decide +kernel
theorem tw_w1134 : lw_tbl[1134]? = some ((Jvm.Cond.instanceMethod ({ cls := "TreasureWalk", name := "walk", desc := "(IIII)I" } : Jvm.MethodName))) := by decide +kernel
theorem tw_w1135 : lw_tbl[1135]? = some ((Jvm.Cond.selects "TreasureWalk" ({ cls := "TreasureWalk", name := "walk", desc := "(IIII)I" } : Jvm.MethodName) ({ cls := "TreasureWalk", name := "walk", desc := "(IIII)I" } : Jvm.MethodName))) := by decide +kernel
theorem tw_w1136 : lw_tbl[1136]? = some ((Jvm.Cond.code ({ cls := "TreasureWalk", name := "walk", desc := "(IIII)I" } : Jvm.MethodName) prog_1_method_11_code (6 : Nat) (Option.some Jvm.ClassFile.FieldType.int))) := by decide +kernel
theorem tw_w1154 : lw_tbl[1154]? = some ((Jvm.Cond.methodLink "TreasureWalk" (207 : Nat) ({ cls := "TreasureWalk$Trails", name := "firstWalkPaces", desc := "(III)I" } : Jvm.MethodName))) := by decide +kernel
theorem tw_w1155 : lw_tbl[1155]? = some ((Jvm.Cond.instanceMethod ({ cls := "TreasureWalk$Trails", name := "firstWalkPaces", desc := "(III)I" } : Jvm.MethodName))) := by decide +kernel
theorem tw_w1156 : lw_tbl[1156]? = some ((Jvm.Cond.selects "TreasureWalk$Trails" ({ cls := "TreasureWalk$Trails", name := "firstWalkPaces", desc := "(III)I" } : Jvm.MethodName) ({ cls := "TreasureWalk$Trails", name := "firstWalkPaces", desc := "(III)I" } : Jvm.MethodName))) := by decide +kernel
theorem tw_w1157 : lw_tbl[1157]? = some ((Jvm.Cond.code ({ cls := "TreasureWalk$Trails", name := "firstWalkPaces", desc := "(III)I" } : Jvm.MethodName) prog_12_method_12_code (6 : Nat) (Option.some Jvm.ClassFile.FieldType.int))) := by decide +kernel
theorem tw_w1158 : lw_tbl[1158]? = some ((Jvm.Cond.methodLink "TreasureWalk$Trails" (147 : Nat) ({ cls := "TreasureWalk$Trails", name := "findWays", desc := "(II)V" } : Jvm.MethodName))) := by decide +kernel
theorem tw_w1160 : lw_tbl[1160]? = some ((Jvm.Cond.instanceMethod ({ cls := "TreasureWalk$Trails", name := "findWays", desc := "(II)V" } : Jvm.MethodName))) := by decide +kernel
theorem tw_w1161 : lw_tbl[1161]? = some ((Jvm.Cond.code ({ cls := "TreasureWalk$Trails", name := "findWays", desc := "(II)V" } : Jvm.MethodName) prog_12_method_14_code (6 : Nat) (Option.none : Option Jvm.ClassFile.FieldType))) := by decide +kernel
theorem tw_w1162 : lw_tbl[1162]? = some ((Jvm.Cond.methodLink "TreasureWalk$Trails" (153 : Nat) ({ cls := "TreasureWalk$Trails", name := "fewestPaces", desc := "(III)I" } : Jvm.MethodName))) := by decide +kernel
theorem tw_w1164 : lw_tbl[1164]? = some ((Jvm.Cond.instanceMethod ({ cls := "TreasureWalk$Trails", name := "fewestPaces", desc := "(III)I" } : Jvm.MethodName))) := by decide +kernel
theorem tw_w1165 : lw_tbl[1165]? = some ((Jvm.Cond.code ({ cls := "TreasureWalk$Trails", name := "fewestPaces", desc := "(III)I" } : Jvm.MethodName) prog_12_method_15_code (8 : Nat) (Option.some Jvm.ClassFile.FieldType.int))) := by decide +kernel
theorem tw_w1166 : lw_tbl[1166]? = some ((Jvm.Cond.methodLink "TreasureWalk$Trails" (150 : Nat) ({ cls := "TreasureWalk$Trails", name := "firstStart", desc := "(I)I" } : Jvm.MethodName))) := by decide +kernel
theorem tw_w1168 : lw_tbl[1168]? = some ((Jvm.Cond.instanceMethod ({ cls := "TreasureWalk$Trails", name := "firstStart", desc := "(I)I" } : Jvm.MethodName))) := by decide +kernel
theorem tw_w1169 : lw_tbl[1169]? = some ((Jvm.Cond.code ({ cls := "TreasureWalk$Trails", name := "firstStart", desc := "(I)I" } : Jvm.MethodName) prog_12_method_13_code (3 : Nat) (Option.some Jvm.ClassFile.FieldType.int))) := by decide +kernel
theorem tw_w1170 : lw_tbl[1170]? = some ((Jvm.Cond.methodLink "TreasureWalk$Trails" (156 : Nat) ({ cls := "TreasureWalk$Trails", name := "spotBehind", desc := "(IIII)I" } : Jvm.MethodName))) := by decide +kernel
theorem tw_w1172 : lw_tbl[1172]? = some ((Jvm.Cond.instanceMethod ({ cls := "TreasureWalk$Trails", name := "spotBehind", desc := "(IIII)I" } : Jvm.MethodName))) := by decide +kernel
theorem tw_w1173 : lw_tbl[1173]? = some ((Jvm.Cond.code ({ cls := "TreasureWalk$Trails", name := "spotBehind", desc := "(IIII)I" } : Jvm.MethodName) prog_12_method_16_code (8 : Nat) (Option.some Jvm.ClassFile.FieldType.int))) := by decide +kernel
theorem tw_w1178 : lw_tbl[1178]? = some ((Jvm.Cond.instanceMethod ({ cls := "TreasureWalk", name := "starts", desc := "(III)I" } : Jvm.MethodName))) := by decide +kernel
theorem tw_w1179 : lw_tbl[1179]? = some ((Jvm.Cond.selects "TreasureWalk" ({ cls := "TreasureWalk", name := "starts", desc := "(III)I" } : Jvm.MethodName) ({ cls := "TreasureWalk", name := "starts", desc := "(III)I" } : Jvm.MethodName))) := by decide +kernel
theorem tw_w1180 : lw_tbl[1180]? = some ((Jvm.Cond.code ({ cls := "TreasureWalk", name := "starts", desc := "(III)I" } : Jvm.MethodName) prog_1_method_12_code (4 : Nat) (Option.some Jvm.ClassFile.FieldType.int))) := by decide +kernel
theorem tw_w1181 : lw_tbl[1181]? = some ((Jvm.Cond.methodLink "TreasureWalk" (211 : Nat) ({ cls := "TreasureWalk$Trails", name := "countStarts", desc := "(II)I" } : Jvm.MethodName))) := by decide +kernel
theorem tw_w1182 : lw_tbl[1182]? = some ((Jvm.Cond.instanceMethod ({ cls := "TreasureWalk$Trails", name := "countStarts", desc := "(II)I" } : Jvm.MethodName))) := by decide +kernel
theorem tw_w1183 : lw_tbl[1183]? = some ((Jvm.Cond.selects "TreasureWalk$Trails" ({ cls := "TreasureWalk$Trails", name := "countStarts", desc := "(II)I" } : Jvm.MethodName) ({ cls := "TreasureWalk$Trails", name := "countStarts", desc := "(II)I" } : Jvm.MethodName))) := by decide +kernel
theorem tw_w1184 : lw_tbl[1184]? = some ((Jvm.Cond.code ({ cls := "TreasureWalk$Trails", name := "countStarts", desc := "(II)I" } : Jvm.MethodName) prog_12_method_11_code (5 : Nat) (Option.some Jvm.ClassFile.FieldType.int))) := by decide +kernel
theorem tw_w1189 : lw_tbl[1189]? = some ((Jvm.Cond.instanceMethod ({ cls := "TreasureWalk", name := "distance", desc := "(II)I" } : Jvm.MethodName))) := by decide +kernel
theorem tw_w1190 : lw_tbl[1190]? = some ((Jvm.Cond.selects "TreasureWalk" ({ cls := "TreasureWalk", name := "distance", desc := "(II)I" } : Jvm.MethodName) ({ cls := "TreasureWalk", name := "distance", desc := "(II)I" } : Jvm.MethodName))) := by decide +kernel
theorem tw_w1191 : lw_tbl[1191]? = some ((Jvm.Cond.code ({ cls := "TreasureWalk", name := "distance", desc := "(II)I" } : Jvm.MethodName) prog_1_method_13_code (4 : Nat) (Option.some Jvm.ClassFile.FieldType.int))) := by decide +kernel
theorem tw_w1192 : lw_tbl[1192]? = some ((Jvm.Cond.methodLink "TreasureWalk" (214 : Nat) ({ cls := "TreasureWalk$Survey", name := "distancesFrom", desc := "(I)LTreasureWalk$Row;" } : Jvm.MethodName))) := by decide +kernel
theorem tw_w1197 : lw_tbl[1197]? = some ((Jvm.Cond.instanceMethod ({ cls := "TreasureWalk", name := "part", desc := "(II)I" } : Jvm.MethodName))) := by decide +kernel
theorem tw_w1198 : lw_tbl[1198]? = some ((Jvm.Cond.selects "TreasureWalk" ({ cls := "TreasureWalk", name := "part", desc := "(II)I" } : Jvm.MethodName) ({ cls := "TreasureWalk", name := "part", desc := "(II)I" } : Jvm.MethodName))) := by decide +kernel
theorem tw_w1199 : lw_tbl[1199]? = some ((Jvm.Cond.code ({ cls := "TreasureWalk", name := "part", desc := "(II)I" } : Jvm.MethodName) prog_1_method_16_code (3 : Nat) (Option.some Jvm.ClassFile.FieldType.int))) := by decide +kernel
theorem tw_w1200 : lw_tbl[1200]? = some ((Jvm.Cond.methodLink "TreasureWalk" (224 : Nat) ({ cls := "TreasureWalk$Survey", name := "partSize", desc := "(I)I" } : Jvm.MethodName))) := by decide +kernel
theorem tw_w1201 : lw_tbl[1201]? = some ((Jvm.Cond.instanceMethod ({ cls := "TreasureWalk$Survey", name := "partSize", desc := "(I)I" } : Jvm.MethodName))) := by decide +kernel
theorem tw_w1202 : lw_tbl[1202]? = some ((Jvm.Cond.selects "TreasureWalk$Survey" ({ cls := "TreasureWalk$Survey", name := "partSize", desc := "(I)I" } : Jvm.MethodName) ({ cls := "TreasureWalk$Survey", name := "partSize", desc := "(I)I" } : Jvm.MethodName))) := by decide +kernel
theorem tw_w1203 : lw_tbl[1203]? = some ((Jvm.Cond.code ({ cls := "TreasureWalk$Survey", name := "partSize", desc := "(I)I" } : Jvm.MethodName) prog_10_method_6_code (3 : Nat) (Option.some Jvm.ClassFile.FieldType.int))) := by decide +kernel
theorem tw_w1208 : lw_tbl[1208]? = some ((Jvm.Cond.instanceMethod ({ cls := "TreasureWalk", name := "moveTo", desc := "(II)I" } : Jvm.MethodName))) := by decide +kernel
theorem tw_w1209 : lw_tbl[1209]? = some ((Jvm.Cond.selects "TreasureWalk" ({ cls := "TreasureWalk", name := "moveTo", desc := "(II)I" } : Jvm.MethodName) ({ cls := "TreasureWalk", name := "moveTo", desc := "(II)I" } : Jvm.MethodName))) := by decide +kernel
theorem tw_w1210 : lw_tbl[1210]? = some ((Jvm.Cond.code ({ cls := "TreasureWalk", name := "moveTo", desc := "(II)I" } : Jvm.MethodName) prog_1_method_19_code (5 : Nat) (Option.some Jvm.ClassFile.FieldType.int))) := by decide +kernel
theorem tw_w1215 : lw_tbl[1215]? = some ((Jvm.Cond.instanceMethod ({ cls := "TreasureWalk", name := "use", desc := "(IZ)I" } : Jvm.MethodName))) := by decide +kernel
theorem tw_w1216 : lw_tbl[1216]? = some ((Jvm.Cond.selects "TreasureWalk" ({ cls := "TreasureWalk", name := "use", desc := "(IZ)I" } : Jvm.MethodName) ({ cls := "TreasureWalk", name := "use", desc := "(IZ)I" } : Jvm.MethodName))) := by decide +kernel
theorem tw_w1217 : lw_tbl[1217]? = some ((Jvm.Cond.code ({ cls := "TreasureWalk", name := "use", desc := "(IZ)I" } : Jvm.MethodName) prog_1_method_21_code (3 : Nat) (Option.some Jvm.ClassFile.FieldType.int))) := by decide +kernel
theorem tw_w1218 : lw_tbl[1218]? = some ((Jvm.Cond.methodLink "TreasureWalk" (240 : Nat) ({ cls := "TreasureWalk$Row", name := "put", desc := "(II)V" } : Jvm.MethodName))) := by decide +kernel
theorem tw_w1223 : lw_tbl[1223]? = some ((Jvm.Cond.instanceMethod ({ cls := "TreasureWalk", name := "hide", desc := "(I)I" } : Jvm.MethodName))) := by decide +kernel
theorem tw_w1224 : lw_tbl[1224]? = some ((Jvm.Cond.selects "TreasureWalk" ({ cls := "TreasureWalk", name := "hide", desc := "(I)I" } : Jvm.MethodName) ({ cls := "TreasureWalk", name := "hide", desc := "(I)I" } : Jvm.MethodName))) := by decide +kernel
theorem tw_w1225 : lw_tbl[1225]? = some ((Jvm.Cond.code ({ cls := "TreasureWalk", name := "hide", desc := "(I)I" } : Jvm.MethodName) prog_1_method_22_code (4 : Nat) (Option.some Jvm.ClassFile.FieldType.int))) := by decide +kernel
theorem tw_w1227 : lw_tbl[1227]? = some ((Jvm.Cond.methodLink "TreasureWalk" (245 : Nat) ({ cls := "TreasureWalk$Cells", name := "at", desc := "(I)I" } : Jvm.MethodName))) := by decide +kernel
theorem tw_w1232 : lw_tbl[1232]? = some ((Jvm.Cond.instanceMethod ({ cls := "TreasureWalk", name := "turn", desc := "(II)I" } : Jvm.MethodName))) := by decide +kernel
theorem tw_w1233 : lw_tbl[1233]? = some ((Jvm.Cond.selects "TreasureWalk" ({ cls := "TreasureWalk", name := "turn", desc := "(II)I" } : Jvm.MethodName) ({ cls := "TreasureWalk", name := "turn", desc := "(II)I" } : Jvm.MethodName))) := by decide +kernel
theorem tw_w1234 : lw_tbl[1234]? = some ((Jvm.Cond.code ({ cls := "TreasureWalk", name := "turn", desc := "(II)I" } : Jvm.MethodName) prog_1_method_23_code (4 : Nat) (Option.some Jvm.ClassFile.FieldType.int))) := by decide +kernel
theorem tw_w1249 : lw_tbl[1249]? = some ((Jvm.Cond.methodLink "TreasureWalkModel" (65 : Nat) ({ cls := "TreasureWalkModel", name := "layMap", desc := "([III)V" } : Jvm.MethodName))) := by decide +kernel
theorem tw_w1250 : lw_tbl[1250]? = some ((Jvm.Cond.static ({ cls := "TreasureWalkModel", name := "layMap", desc := "([III)V" } : Jvm.MethodName))) := by decide +kernel
theorem tw_w1251 : lw_tbl[1251]? = some ((Jvm.Cond.code ({ cls := "TreasureWalkModel", name := "layMap", desc := "([III)V" } : Jvm.MethodName) prog_14_method_8_code (4 : Nat) (Option.none : Option Jvm.ClassFile.FieldType))) := by decide +kernel
theorem tw_w1252 : lw_tbl[1252]? = some ((Jvm.Cond.fieldLink "TreasureWalkModel" (69 : Nat) "TreasureWalkModel" "thrown" "I")) := by decide +kernel
theorem tw_w1253 : lw_tbl[1253]? = some ((Jvm.Cond.fieldLink "TreasureWalkModel" (9 : Nat) "TreasureWalkModel" "buffer" "[I")) := by decide +kernel
theorem tw_w1254 : lw_tbl[1254]? = some ((Jvm.Cond.fieldLink "TreasureWalkModel" (72 : Nat) "TreasureWalkModel" "bufferLength" "I")) := by decide +kernel
theorem tw_w1255 : lw_tbl[1255]? = some ((Jvm.Cond.fieldLink "TreasureWalkModel" (75 : Nat) "TreasureWalkModel" "textLength" "I")) := by decide +kernel
theorem tw_w1256 : lw_tbl[1256]? = some ((Jvm.Cond.fieldLink "TreasureWalkModel" (78 : Nat) "TreasureWalkModel" "position" "I")) := by decide +kernel
theorem tw_w1257 : lw_tbl[1257]? = some ((Jvm.Cond.fieldLink "TreasureWalkModel" (85 : Nat) "TreasureWalkModel" "error" "I")) := by decide +kernel
theorem tw_w1258 : lw_tbl[1258]? = some ((Jvm.Cond.fieldLink "TreasureWalkModel" (88 : Nat) "TreasureWalkModel" "errorAt" "I")) := by decide +kernel
theorem tw_w1259 : lw_tbl[1259]? = some ((Jvm.Cond.fieldLink "TreasureWalkModel" (13 : Nat) "TreasureWalkModel" "errorOffset" "I")) := by decide +kernel
theorem tw_w1260 : lw_tbl[1260]? = some ((Jvm.Cond.fieldLink "TreasureWalkModel" (17 : Nat) "TreasureWalkModel" "data" "[I")) := by decide +kernel
theorem tw_w1261 : lw_tbl[1261]? = some ((Jvm.Cond.fieldLink "TreasureWalkModel" (20 : Nat) "TreasureWalkModel" "draft" "[I")) := by decide +kernel
theorem tw_w1262 : lw_tbl[1262]? = some ((Jvm.Cond.fieldLink "TreasureWalkModel" (25 : Nat) "TreasureWalkModel" "history" "[[I")) := by decide +kernel
theorem tw_w1263 : lw_tbl[1263]? = some ((Jvm.Cond.fieldLink "TreasureWalkModel" (362 : Nat) "TreasureWalkModel" "undoDepth" "I")) := by decide +kernel
theorem tw_w1264 : lw_tbl[1264]? = some ((Jvm.Cond.fieldLink "TreasureWalkModel" (120 : Nat) "TreasureWalkModel" "numberStart" "I")) := by decide +kernel
theorem tw_w1265 : lw_tbl[1265]? = some ((Jvm.Cond.fieldLink "TreasureWalkModel" (149 : Nat) "TreasureWalkModel" "toldTeam" "I")) := by decide +kernel
theorem tw_w1266 : lw_tbl[1266]? = some ((Jvm.Cond.fieldLink "TreasureWalkModel" (134 : Nat) "TreasureWalkModel" "areaAt" "I")) := by decide +kernel
theorem tw_w1267 : lw_tbl[1267]? = some ((Jvm.Cond.fieldLink "TreasureWalkModel" (131 : Nat) "TreasureWalkModel" "left0" "I")) := by decide +kernel
theorem tw_w1268 : lw_tbl[1268]? = some ((Jvm.Cond.fieldLink "TreasureWalkModel" (137 : Nat) "TreasureWalkModel" "top0" "I")) := by decide +kernel
theorem tw_w1269 : lw_tbl[1269]? = some ((Jvm.Cond.fieldLink "TreasureWalkModel" (140 : Nat) "TreasureWalkModel" "right0" "I")) := by decide +kernel
theorem tw_w1270 : lw_tbl[1270]? = some ((Jvm.Cond.fieldLink "TreasureWalkModel" (143 : Nat) "TreasureWalkModel" "bottom0" "I")) := by decide +kernel
theorem tw_w1271 : lw_tbl[1271]? = some ((Jvm.Cond.fieldLink "TreasureWalkModel" (28 : Nat) "TreasureWalkModel" "endCell" "[I")) := by decide +kernel
theorem tw_w1272 : lw_tbl[1272]? = some ((Jvm.Cond.fieldLink "TreasureWalkModel" (31 : Nat) "TreasureWalkModel" "endPaces" "[I")) := by decide +kernel
theorem tw_w1273 : lw_tbl[1273]? = some ((Jvm.Cond.fieldLink "TreasureWalkModel" (36 : Nat) "TreasureWalkModel" "ends" "[[[Z")) := by decide +kernel
theorem tw_w1274 : lw_tbl[1274]? = some ((Jvm.Cond.fieldLink "TreasureWalkModel" (283 : Nat) "TreasureWalkModel" "isLaid" "Z")) := by decide +kernel
theorem tw_w1275 : lw_tbl[1275]? = some ((Jvm.Cond.fieldLink "TreasureWalkModel" (41 : Nat) "TreasureWalkModel" "leads" "[[Z")) := by decide +kernel
theorem tw_w1276 : lw_tbl[1276]? = some ((Jvm.Cond.fieldLink "TreasureWalkModel" (44 : Nat) "TreasureWalkModel" "far" "[I")) := by decide +kernel
theorem tw_w1277 : lw_tbl[1277]? = some ((Jvm.Cond.fieldLink "TreasureWalkModel" (47 : Nat) "TreasureWalkModel" "row" "[I")) := by decide +kernel
theorem tw_w1278 : lw_tbl[1278]? = some ((Jvm.Cond.fieldLink "TreasureWalkModel" (50 : Nat) "TreasureWalkModel" "partOf" "[I")) := by decide +kernel
theorem tw_w1279 : lw_tbl[1279]? = some ((Jvm.Cond.fieldLink "TreasureWalkModel" (53 : Nat) "TreasureWalkModel" "goal" "[I")) := by decide +kernel
theorem tw_w1280 : lw_tbl[1280]? = some ((Jvm.Cond.fieldLink "TreasureWalkModel" (56 : Nat) "TreasureWalkModel" "first" "[I")) := by decide +kernel
theorem tw_w1281 : lw_tbl[1281]? = some ((Jvm.Cond.fieldLink "TreasureWalkModel" (59 : Nat) "TreasureWalkModel" "between" "[[I")) := by decide +kernel
theorem tw_w1282 : lw_tbl[1282]? = some ((Jvm.Cond.fieldLink "TreasureWalkModel" (62 : Nat) "TreasureWalkModel" "least" "[[I")) := by decide +kernel
theorem tw_w1348 : lw_tbl[1348]? = some ((Jvm.Cond.instanceMethod ({ cls := "TreasureWalkModel", name := "thrown", desc := "()I" } : Jvm.MethodName))) := by decide +kernel
theorem tw_w1349 : lw_tbl[1349]? = some ((Jvm.Cond.selects "TreasureWalkModel" ({ cls := "TreasureWalkModel", name := "thrown", desc := "()I" } : Jvm.MethodName) ({ cls := "TreasureWalkModel", name := "thrown", desc := "()I" } : Jvm.MethodName))) := by decide +kernel
theorem tw_w1350 : lw_tbl[1350]? = some ((Jvm.Cond.code ({ cls := "TreasureWalkModel", name := "thrown", desc := "()I" } : Jvm.MethodName) prog_14_method_2_code (1 : Nat) (Option.some Jvm.ClassFile.FieldType.int))) := by decide +kernel
theorem tw_w1352 : lw_tbl[1352]? = some ((Jvm.Cond.instanceMethod ({ cls := "TreasureWalkModel", name := "append", desc := "(IIIII)I" } : Jvm.MethodName))) := by decide +kernel
theorem tw_w1353 : lw_tbl[1353]? = some ((Jvm.Cond.selects "TreasureWalkModel" ({ cls := "TreasureWalkModel", name := "append", desc := "(IIIII)I" } : Jvm.MethodName) ({ cls := "TreasureWalkModel", name := "append", desc := "(IIIII)I" } : Jvm.MethodName))) := by decide +kernel
theorem tw_w1354 : lw_tbl[1354]? = some ((Jvm.Cond.code ({ cls := "TreasureWalkModel", name := "append", desc := "(IIIII)I" } : Jvm.MethodName) prog_14_method_9_code (8 : Nat) (Option.some Jvm.ClassFile.FieldType.int))) := by decide +kernel
theorem tw_w1356 : lw_tbl[1356]? = some ((Jvm.Cond.instanceMethod ({ cls := "TreasureWalkModel", name := "load", desc := "(I)I" } : Jvm.MethodName))) := by decide +kernel
theorem tw_w1357 : lw_tbl[1357]? = some ((Jvm.Cond.selects "TreasureWalkModel" ({ cls := "TreasureWalkModel", name := "load", desc := "(I)I" } : Jvm.MethodName) ({ cls := "TreasureWalkModel", name := "load", desc := "(I)I" } : Jvm.MethodName))) := by decide +kernel
theorem tw_w1358 : lw_tbl[1358]? = some ((Jvm.Cond.code ({ cls := "TreasureWalkModel", name := "load", desc := "(I)I" } : Jvm.MethodName) prog_14_method_33_code (4 : Nat) (Option.some Jvm.ClassFile.FieldType.int))) := by decide +kernel
theorem tw_w1359 : lw_tbl[1359]? = some ((Jvm.Cond.methodLink "TreasureWalkModel" (91 : Nat) ({ cls := "TreasureWalkModel", name := "in", desc := "(III)Z" } : Jvm.MethodName))) := by decide +kernel
theorem tw_w1360 : lw_tbl[1360]? = some ((Jvm.Cond.static ({ cls := "TreasureWalkModel", name := "in", desc := "(III)Z" } : Jvm.MethodName))) := by decide +kernel
theorem tw_w1361 : lw_tbl[1361]? = some ((Jvm.Cond.code ({ cls := "TreasureWalkModel", name := "in", desc := "(III)Z" } : Jvm.MethodName) prog_14_method_4_code (3 : Nat) (Option.some Jvm.ClassFile.FieldType.boolean))) := by decide +kernel
theorem tw_w1362 : lw_tbl[1362]? = some ((Jvm.Cond.methodLink "TreasureWalkModel" (246 : Nat) ({ cls := "TreasureWalkModel", name := "fails", desc := "(ZI)Z" } : Jvm.MethodName))) := by decide +kernel
theorem tw_w1364 : lw_tbl[1364]? = some ((Jvm.Cond.instanceMethod ({ cls := "TreasureWalkModel", name := "fails", desc := "(ZI)Z" } : Jvm.MethodName))) := by decide +kernel
theorem tw_w1365 : lw_tbl[1365]? = some ((Jvm.Cond.code ({ cls := "TreasureWalkModel", name := "fails", desc := "(ZI)Z" } : Jvm.MethodName) prog_14_method_3_code (3 : Nat) (Option.some Jvm.ClassFile.FieldType.boolean))) := by decide +kernel
theorem tw_w1367 : lw_tbl[1367]? = some ((Jvm.Cond.methodLink "TreasureWalkModel" (161 : Nat) ({ cls := "TreasureWalkModel", name := "takeWord", desc := "(Ljava/lang/String;)Z" } : Jvm.MethodName))) := by decide +kernel
theorem tw_w1369 : lw_tbl[1369]? = some ((Jvm.Cond.instanceMethod ({ cls := "TreasureWalkModel", name := "takeWord", desc := "(Ljava/lang/String;)Z" } : Jvm.MethodName))) := by decide +kernel
theorem tw_w1370 : lw_tbl[1370]? = some ((Jvm.Cond.code ({ cls := "TreasureWalkModel", name := "takeWord", desc := "(Ljava/lang/String;)Z" } : Jvm.MethodName) prog_14_method_15_code (3 : Nat) (Option.some Jvm.ClassFile.FieldType.boolean))) := by decide +kernel
theorem tw_w1371 : lw_tbl[1371]? = some ((Jvm.Cond.methodLink "TreasureWalkModel" (95 : Nat) ({ cls := "TreasureWalkModel", name := "isGood", desc := "()Z" } : Jvm.MethodName))) := by decide +kernel
theorem tw_w1373 : lw_tbl[1373]? = some ((Jvm.Cond.instanceMethod ({ cls := "TreasureWalkModel", name := "isGood", desc := "()Z" } : Jvm.MethodName))) := by decide +kernel
theorem tw_w1374 : lw_tbl[1374]? = some ((Jvm.Cond.code ({ cls := "TreasureWalkModel", name := "isGood", desc := "()Z" } : Jvm.MethodName) prog_14_method_12_code (1 : Nat) (Option.some Jvm.ClassFile.FieldType.boolean))) := by decide +kernel
theorem tw_w1375 : lw_tbl[1375]? = some ((Jvm.Cond.methodLink "TreasureWalkModel" (99 : Nat) ({ cls := "TreasureWalkModel", name := "ahead", desc := "()I" } : Jvm.MethodName))) := by decide +kernel
theorem tw_w1377 : lw_tbl[1377]? = some ((Jvm.Cond.instanceMethod ({ cls := "TreasureWalkModel", name := "ahead", desc := "()I" } : Jvm.MethodName))) := by decide +kernel
theorem tw_w1378 : lw_tbl[1378]? = some ((Jvm.Cond.code ({ cls := "TreasureWalkModel", name := "ahead", desc := "()I" } : Jvm.MethodName) prog_14_method_11_code (1 : Nat) (Option.some Jvm.ClassFile.FieldType.int))) := by decide +kernel
theorem tw_w1379 : lw_tbl[1379]? = some ((Jvm.Cond.methodLink "TreasureWalkModel" (81 : Nat) ({ cls := "TreasureWalkModel", name := "byteAt", desc := "(I)I" } : Jvm.MethodName))) := by decide +kernel
theorem tw_w1381 : lw_tbl[1381]? = some ((Jvm.Cond.instanceMethod ({ cls := "TreasureWalkModel", name := "byteAt", desc := "(I)I" } : Jvm.MethodName))) := by decide +kernel
theorem tw_w1382 : lw_tbl[1382]? = some ((Jvm.Cond.code ({ cls := "TreasureWalkModel", name := "byteAt", desc := "(I)I" } : Jvm.MethodName) prog_14_method_10_code (2 : Nat) (Option.some Jvm.ClassFile.FieldType.int))) := by decide +kernel
theorem tw_w1383 : lw_tbl[1383]? = some ((Jvm.Cond.methodLink "TreasureWalkModel" (103 : Nat) ({ cls := "java/lang/String", name := "length", desc := "()I" } : Jvm.MethodName))) := by decide +kernel
theorem tw_w1384 : lw_tbl[1384]? = some ((Jvm.Cond.methodLink "TreasureWalkModel" (108 : Nat) ({ cls := "java/lang/String", name := "charAt", desc := "(I)C" } : Jvm.MethodName))) := by decide +kernel
theorem tw_w1385 : lw_tbl[1385]? = some ((Jvm.Cond.methodLink "TreasureWalkModel" (112 : Nat) ({ cls := "TreasureWalkModel", name := "report", desc := "(II)V" } : Jvm.MethodName))) := by decide +kernel
theorem tw_w1387 : lw_tbl[1387]? = some ((Jvm.Cond.instanceMethod ({ cls := "TreasureWalkModel", name := "report", desc := "(II)V" } : Jvm.MethodName))) := by decide +kernel
theorem tw_w1388 : lw_tbl[1388]? = some ((Jvm.Cond.code ({ cls := "TreasureWalkModel", name := "report", desc := "(II)V" } : Jvm.MethodName) prog_14_method_13_code (3 : Nat) (Option.none : Option Jvm.ClassFile.FieldType))) := by decide +kernel
theorem tw_w1389 : lw_tbl[1389]? = some ((Jvm.Cond.methodLink "TreasureWalkModel" (128 : Nat) ({ cls := "TreasureWalkModel", name := "number", desc := "(II)I" } : Jvm.MethodName))) := by decide +kernel
theorem tw_w1391 : lw_tbl[1391]? = some ((Jvm.Cond.instanceMethod ({ cls := "TreasureWalkModel", name := "number", desc := "(II)I" } : Jvm.MethodName))) := by decide +kernel
theorem tw_w1392 : lw_tbl[1392]? = some ((Jvm.Cond.code ({ cls := "TreasureWalkModel", name := "number", desc := "(II)I" } : Jvm.MethodName) prog_14_method_17_code (4 : Nat) (Option.some Jvm.ClassFile.FieldType.int))) := by decide +kernel
theorem tw_w1393 : lw_tbl[1393]? = some ((Jvm.Cond.methodLink "TreasureWalkModel" (116 : Nat) ({ cls := "TreasureWalkModel", name := "isDigit", desc := "(I)Z" } : Jvm.MethodName))) := by decide +kernel
theorem tw_w1394 : lw_tbl[1394]? = some ((Jvm.Cond.static ({ cls := "TreasureWalkModel", name := "isDigit", desc := "(I)Z" } : Jvm.MethodName))) := by decide +kernel
theorem tw_w1395 : lw_tbl[1395]? = some ((Jvm.Cond.code ({ cls := "TreasureWalkModel", name := "isDigit", desc := "(I)Z" } : Jvm.MethodName) prog_14_method_14_code (1 : Nat) (Option.some Jvm.ClassFile.FieldType.boolean))) := by decide +kernel
theorem tw_w1396 : lw_tbl[1396]? = some ((Jvm.Cond.constant "TreasureWalkModel" (123 : Nat) (100000000 : Int32))) := by decide +kernel
theorem tw_w1397 : lw_tbl[1397]? = some ((Jvm.Cond.methodLink "TreasureWalkModel" (124 : Nat) ({ cls := "TreasureWalkModel", name := "min", desc := "(II)I" } : Jvm.MethodName))) := by decide +kernel
theorem tw_w1398 : lw_tbl[1398]? = some ((Jvm.Cond.static ({ cls := "TreasureWalkModel", name := "min", desc := "(II)I" } : Jvm.MethodName))) := by decide +kernel
theorem tw_w1399 : lw_tbl[1399]? = some ((Jvm.Cond.code ({ cls := "TreasureWalkModel", name := "min", desc := "(II)I" } : Jvm.MethodName) prog_14_method_5_code (2 : Nat) (Option.some Jvm.ClassFile.FieldType.int))) := by decide +kernel
theorem tw_w1400 : lw_tbl[1400]? = some ((Jvm.Cond.methodLink "TreasureWalkModel" (252 : Nat) ({ cls := "TreasureWalkModel", name := "max", desc := "(II)I" } : Jvm.MethodName))) := by decide +kernel
theorem tw_w1401 : lw_tbl[1401]? = some ((Jvm.Cond.static ({ cls := "TreasureWalkModel", name := "max", desc := "(II)I" } : Jvm.MethodName))) := by decide +kernel
theorem tw_w1402 : lw_tbl[1402]? = some ((Jvm.Cond.code ({ cls := "TreasureWalkModel", name := "max", desc := "(II)I" } : Jvm.MethodName) prog_14_method_6_code (2 : Nat) (Option.some Jvm.ClassFile.FieldType.int))) := by decide +kernel
theorem tw_w1403 : lw_tbl[1403]? = some ((Jvm.Cond.methodLink "TreasureWalkModel" (243 : Nat) ({ cls := "TreasureWalkModel", name := "expect", desc := "(I)V" } : Jvm.MethodName))) := by decide +kernel
theorem tw_w1405 : lw_tbl[1405]? = some ((Jvm.Cond.instanceMethod ({ cls := "TreasureWalkModel", name := "expect", desc := "(I)V" } : Jvm.MethodName))) := by decide +kernel
theorem tw_w1406 : lw_tbl[1406]? = some ((Jvm.Cond.code ({ cls := "TreasureWalkModel", name := "expect", desc := "(I)V" } : Jvm.MethodName) prog_14_method_16_code (2 : Nat) (Option.none : Option Jvm.ClassFile.FieldType))) := by decide +kernel
theorem tw_w1407 : lw_tbl[1407]? = some ((Jvm.Cond.methodLink "TreasureWalkModel" (255 : Nat) ({ cls := "TreasureWalkModel", name := "statement", desc := "()V" } : Jvm.MethodName))) := by decide +kernel
theorem tw_w1409 : lw_tbl[1409]? = some ((Jvm.Cond.instanceMethod ({ cls := "TreasureWalkModel", name := "statement", desc := "()V" } : Jvm.MethodName))) := by decide +kernel
theorem tw_w1410 : lw_tbl[1410]? = some ((Jvm.Cond.code ({ cls := "TreasureWalkModel", name := "statement", desc := "()V" } : Jvm.MethodName) prog_14_method_32_code (2 : Nat) (Option.none : Option Jvm.ClassFile.FieldType))) := by decide +kernel
theorem tw_w1412 : lw_tbl[1412]? = some ((Jvm.Cond.methodLink "TreasureWalkModel" (220 : Nat) ({ cls := "TreasureWalkModel", name := "readWater", desc := "()V" } : Jvm.MethodName))) := by decide +kernel
theorem tw_w1414 : lw_tbl[1414]? = some ((Jvm.Cond.instanceMethod ({ cls := "TreasureWalkModel", name := "readWater", desc := "()V" } : Jvm.MethodName))) := by decide +kernel
theorem tw_w1415 : lw_tbl[1415]? = some ((Jvm.Cond.code ({ cls := "TreasureWalkModel", name := "readWater", desc := "()V" } : Jvm.MethodName) prog_14_method_20_code (4 : Nat) (Option.none : Option Jvm.ClassFile.FieldType))) := by decide +kernel
theorem tw_w1416 : lw_tbl[1416]? = some ((Jvm.Cond.methodLink "TreasureWalkModel" (146 : Nat) ({ cls := "TreasureWalkModel", name := "readArea", desc := "()V" } : Jvm.MethodName))) := by decide +kernel
theorem tw_w1418 : lw_tbl[1418]? = some ((Jvm.Cond.instanceMethod ({ cls := "TreasureWalkModel", name := "readArea", desc := "()V" } : Jvm.MethodName))) := by decide +kernel
theorem tw_w1419 : lw_tbl[1419]? = some ((Jvm.Cond.code ({ cls := "TreasureWalkModel", name := "readArea", desc := "()V" } : Jvm.MethodName) prog_14_method_18_code (1 : Nat) (Option.none : Option Jvm.ClassFile.FieldType))) := by decide +kernel
theorem tw_w1420 : lw_tbl[1420]? = some ((Jvm.Cond.methodLink "TreasureWalkModel" (152 : Nat) ({ cls := "TreasureWalkModel", name := "isInArea", desc := "(I)Z" } : Jvm.MethodName))) := by decide +kernel
theorem tw_w1422 : lw_tbl[1422]? = some ((Jvm.Cond.instanceMethod ({ cls := "TreasureWalkModel", name := "isInArea", desc := "(I)Z" } : Jvm.MethodName))) := by decide +kernel
theorem tw_w1423 : lw_tbl[1423]? = some ((Jvm.Cond.code ({ cls := "TreasureWalkModel", name := "isInArea", desc := "(I)Z" } : Jvm.MethodName) prog_14_method_19_code (4 : Nat) (Option.some Jvm.ClassFile.FieldType.boolean))) := by decide +kernel
theorem tw_w1424 : lw_tbl[1424]? = some ((Jvm.Cond.methodLink "TreasureWalkModel" (155 : Nat) ({ cls := "TreasureWalkModel", name := "firstLand", desc := "([I)I" } : Jvm.MethodName))) := by decide +kernel
theorem tw_w1425 : lw_tbl[1425]? = some ((Jvm.Cond.static ({ cls := "TreasureWalkModel", name := "firstLand", desc := "([I)I" } : Jvm.MethodName))) := by decide +kernel
theorem tw_w1426 : lw_tbl[1426]? = some ((Jvm.Cond.code ({ cls := "TreasureWalkModel", name := "firstLand", desc := "([I)I" } : Jvm.MethodName) prog_14_method_21_code (2 : Nat) (Option.some Jvm.ClassFile.FieldType.int))) := by decide +kernel
theorem tw_w1428 : lw_tbl[1428]? = some ((Jvm.Cond.methodLink "TreasureWalkModel" (225 : Nat) ({ cls := "TreasureWalkModel", name := "readBend", desc := "(I)V" } : Jvm.MethodName))) := by decide +kernel
theorem tw_w1430 : lw_tbl[1430]? = some ((Jvm.Cond.instanceMethod ({ cls := "TreasureWalkModel", name := "readBend", desc := "(I)V" } : Jvm.MethodName))) := by decide +kernel
theorem tw_w1431 : lw_tbl[1431]? = some ((Jvm.Cond.code ({ cls := "TreasureWalkModel", name := "readBend", desc := "(I)V" } : Jvm.MethodName) prog_14_method_22_code (5 : Nat) (Option.none : Option Jvm.ClassFile.FieldType))) := by decide +kernel
theorem tw_w1434 : lw_tbl[1434]? = some ((Jvm.Cond.methodLink "TreasureWalkModel" (167 : Nat) ({ cls := "TreasureWalkModel", name := "bendAt", desc := "(I)I" } : Jvm.MethodName))) := by decide +kernel
theorem tw_w1435 : lw_tbl[1435]? = some ((Jvm.Cond.static ({ cls := "TreasureWalkModel", name := "bendAt", desc := "(I)I" } : Jvm.MethodName))) := by decide +kernel
theorem tw_w1436 : lw_tbl[1436]? = some ((Jvm.Cond.code ({ cls := "TreasureWalkModel", name := "bendAt", desc := "(I)I" } : Jvm.MethodName) prog_14_method_35_code (1 : Nat) (Option.some Jvm.ClassFile.FieldType.int))) := by decide +kernel
theorem tw_w1438 : lw_tbl[1438]? = some ((Jvm.Cond.methodLink "TreasureWalkModel" (230 : Nat) ({ cls := "TreasureWalkModel", name := "readMark", desc := "()V" } : Jvm.MethodName))) := by decide +kernel
theorem tw_w1440 : lw_tbl[1440]? = some ((Jvm.Cond.instanceMethod ({ cls := "TreasureWalkModel", name := "readMark", desc := "()V" } : Jvm.MethodName))) := by decide +kernel
theorem tw_w1441 : lw_tbl[1441]? = some ((Jvm.Cond.code ({ cls := "TreasureWalkModel", name := "readMark", desc := "()V" } : Jvm.MethodName) prog_14_method_25_code (3 : Nat) (Option.none : Option Jvm.ClassFile.FieldType))) := by decide +kernel
theorem tw_w1442 : lw_tbl[1442]? = some ((Jvm.Cond.methodLink "TreasureWalkModel" (170 : Nat) ({ cls := "TreasureWalkModel", name := "letter", desc := "()I" } : Jvm.MethodName))) := by decide +kernel
theorem tw_w1444 : lw_tbl[1444]? = some ((Jvm.Cond.instanceMethod ({ cls := "TreasureWalkModel", name := "letter", desc := "()I" } : Jvm.MethodName))) := by decide +kernel
theorem tw_w1445 : lw_tbl[1445]? = some ((Jvm.Cond.code ({ cls := "TreasureWalkModel", name := "letter", desc := "()I" } : Jvm.MethodName) prog_14_method_23_code (2 : Nat) (Option.some Jvm.ClassFile.FieldType.int))) := by decide +kernel
theorem tw_w1446 : lw_tbl[1446]? = some ((Jvm.Cond.methodLink "TreasureWalkModel" (173 : Nat) ({ cls := "TreasureWalkModel", name := "readLand", desc := "()I" } : Jvm.MethodName))) := by decide +kernel
theorem tw_w1448 : lw_tbl[1448]? = some ((Jvm.Cond.instanceMethod ({ cls := "TreasureWalkModel", name := "readLand", desc := "()I" } : Jvm.MethodName))) := by decide +kernel
theorem tw_w1449 : lw_tbl[1449]? = some ((Jvm.Cond.code ({ cls := "TreasureWalkModel", name := "readLand", desc := "()I" } : Jvm.MethodName) prog_14_method_24_code (5 : Nat) (Option.some Jvm.ClassFile.FieldType.int))) := by decide +kernel
theorem tw_w1451 : lw_tbl[1451]? = some ((Jvm.Cond.methodLink "TreasureWalkModel" (235 : Nat) ({ cls := "TreasureWalkModel", name := "readTeam", desc := "(I)V" } : Jvm.MethodName))) := by decide +kernel
theorem tw_w1453 : lw_tbl[1453]? = some ((Jvm.Cond.instanceMethod ({ cls := "TreasureWalkModel", name := "readTeam", desc := "(I)V" } : Jvm.MethodName))) := by decide +kernel
theorem tw_w1454 : lw_tbl[1454]? = some ((Jvm.Cond.code ({ cls := "TreasureWalkModel", name := "readTeam", desc := "(I)V" } : Jvm.MethodName) prog_14_method_31_code (3 : Nat) (Option.none : Option Jvm.ClassFile.FieldType))) := by decide +kernel
theorem tw_w1456 : lw_tbl[1456]? = some ((Jvm.Cond.methodLink "TreasureWalkModel" (240 : Nat) ({ cls := "TreasureWalkModel", name := "readClue", desc := "(I)V" } : Jvm.MethodName))) := by decide +kernel
theorem tw_w1458 : lw_tbl[1458]? = some ((Jvm.Cond.instanceMethod ({ cls := "TreasureWalkModel", name := "readClue", desc := "(I)V" } : Jvm.MethodName))) := by decide +kernel
theorem tw_w1459 : lw_tbl[1459]? = some ((Jvm.Cond.code ({ cls := "TreasureWalkModel", name := "readClue", desc := "(I)V" } : Jvm.MethodName) prog_14_method_30_code (6 : Nat) (Option.none : Option Jvm.ClassFile.FieldType))) := by decide +kernel
theorem tw_w1460 : lw_tbl[1460]? = some ((Jvm.Cond.methodLink "TreasureWalkModel" (200 : Nat) ({ cls := "TreasureWalkModel", name := "clueAt", desc := "(I)I" } : Jvm.MethodName))) := by decide +kernel
theorem tw_w1461 : lw_tbl[1461]? = some ((Jvm.Cond.static ({ cls := "TreasureWalkModel", name := "clueAt", desc := "(I)I" } : Jvm.MethodName))) := by decide +kernel
theorem tw_w1462 : lw_tbl[1462]? = some ((Jvm.Cond.code ({ cls := "TreasureWalkModel", name := "clueAt", desc := "(I)I" } : Jvm.MethodName) prog_14_method_36_code (1 : Nat) (Option.some Jvm.ClassFile.FieldType.int))) := by decide +kernel
theorem tw_w1463 : lw_tbl[1463]? = some ((Jvm.Cond.methodLink "TreasureWalkModel" (203 : Nat) ({ cls := "TreasureWalkModel", name := "readStart", desc := "(I)V" } : Jvm.MethodName))) := by decide +kernel
theorem tw_w1465 : lw_tbl[1465]? = some ((Jvm.Cond.instanceMethod ({ cls := "TreasureWalkModel", name := "readStart", desc := "(I)V" } : Jvm.MethodName))) := by decide +kernel
theorem tw_w1466 : lw_tbl[1466]? = some ((Jvm.Cond.code ({ cls := "TreasureWalkModel", name := "readStart", desc := "(I)V" } : Jvm.MethodName) prog_14_method_27_code (4 : Nat) (Option.none : Option Jvm.ClassFile.FieldType))) := by decide +kernel
theorem tw_w1467 : lw_tbl[1467]? = some ((Jvm.Cond.methodLink "TreasureWalkModel" (176 : Nat) ({ cls := "TreasureWalkModel", name := "knownMark", desc := "()I" } : Jvm.MethodName))) := by decide +kernel
theorem tw_w1469 : lw_tbl[1469]? = some ((Jvm.Cond.instanceMethod ({ cls := "TreasureWalkModel", name := "knownMark", desc := "()I" } : Jvm.MethodName))) := by decide +kernel
theorem tw_w1470 : lw_tbl[1470]? = some ((Jvm.Cond.code ({ cls := "TreasureWalkModel", name := "knownMark", desc := "()I" } : Jvm.MethodName) prog_14_method_26_code (2 : Nat) (Option.some Jvm.ClassFile.FieldType.int))) := by decide +kernel
theorem tw_w1475 : lw_tbl[1475]? = some ((Jvm.Cond.methodLink "TreasureWalkModel" (215 : Nat) ({ cls := "TreasureWalkModel", name := "readLeg", desc := "(II)V" } : Jvm.MethodName))) := by decide +kernel
theorem tw_w1477 : lw_tbl[1477]? = some ((Jvm.Cond.instanceMethod ({ cls := "TreasureWalkModel", name := "readLeg", desc := "(II)V" } : Jvm.MethodName))) := by decide +kernel
theorem tw_w1478 : lw_tbl[1478]? = some ((Jvm.Cond.code ({ cls := "TreasureWalkModel", name := "readLeg", desc := "(II)V" } : Jvm.MethodName) prog_14_method_29_code (7 : Nat) (Option.none : Option Jvm.ClassFile.FieldType))) := by decide +kernel
theorem tw_w1479 : lw_tbl[1479]? = some ((Jvm.Cond.methodLink "TreasureWalkModel" (195 : Nat) ({ cls := "TreasureWalkModel", name := "bearing", desc := "()I" } : Jvm.MethodName))) := by decide +kernel
theorem tw_w1481 : lw_tbl[1481]? = some ((Jvm.Cond.instanceMethod ({ cls := "TreasureWalkModel", name := "bearing", desc := "()I" } : Jvm.MethodName))) := by decide +kernel
theorem tw_w1482 : lw_tbl[1482]? = some ((Jvm.Cond.code ({ cls := "TreasureWalkModel", name := "bearing", desc := "()I" } : Jvm.MethodName) prog_14_method_28_code (2 : Nat) (Option.some Jvm.ClassFile.FieldType.int))) := by decide +kernel
theorem tw_w1492 : lw_tbl[1492]? = some ((Jvm.Cond.methodLink "TreasureWalkModel" (258 : Nat) ({ cls := "TreasureWalkModel", name := "remember", desc := "()V" } : Jvm.MethodName))) := by decide +kernel
theorem tw_w1494 : lw_tbl[1494]? = some ((Jvm.Cond.instanceMethod ({ cls := "TreasureWalkModel", name := "remember", desc := "()V" } : Jvm.MethodName))) := by decide +kernel
theorem tw_w1495 : lw_tbl[1495]? = some ((Jvm.Cond.code ({ cls := "TreasureWalkModel", name := "remember", desc := "()V" } : Jvm.MethodName) prog_14_method_81_code (2 : Nat) (Option.none : Option Jvm.ClassFile.FieldType))) := by decide +kernel
theorem tw_w1496 : lw_tbl[1496]? = some ((Jvm.Cond.methodLink "TreasureWalkModel" (261 : Nat) ({ cls := "TreasureWalkModel", name := "copy", desc := "([I[I)V" } : Jvm.MethodName))) := by decide +kernel
theorem tw_w1497 : lw_tbl[1497]? = some ((Jvm.Cond.static ({ cls := "TreasureWalkModel", name := "copy", desc := "([I[I)V" } : Jvm.MethodName))) := by decide +kernel
theorem tw_w1498 : lw_tbl[1498]? = some ((Jvm.Cond.code ({ cls := "TreasureWalkModel", name := "copy", desc := "([I[I)V" } : Jvm.MethodName) prog_14_method_7_code (3 : Nat) (Option.none : Option Jvm.ClassFile.FieldType))) := by decide +kernel
theorem tw_w1500 : lw_tbl[1500]? = some ((Jvm.Cond.instanceMethod ({ cls := "TreasureWalkModel", name := "errorOffset", desc := "()I" } : Jvm.MethodName))) := by decide +kernel
theorem tw_w1501 : lw_tbl[1501]? = some ((Jvm.Cond.selects "TreasureWalkModel" ({ cls := "TreasureWalkModel", name := "errorOffset", desc := "()I" } : Jvm.MethodName) ({ cls := "TreasureWalkModel", name := "errorOffset", desc := "()I" } : Jvm.MethodName))) := by decide +kernel
theorem tw_w1502 : lw_tbl[1502]? = some ((Jvm.Cond.code ({ cls := "TreasureWalkModel", name := "errorOffset", desc := "()I" } : Jvm.MethodName) prog_14_method_34_code (1 : Nat) (Option.some Jvm.ClassFile.FieldType.int))) := by decide +kernel
theorem tw_w1504 : lw_tbl[1504]? = some ((Jvm.Cond.instanceMethod ({ cls := "TreasureWalkModel", name := "state", desc := "(I)I" } : Jvm.MethodName))) := by decide +kernel
theorem tw_w1505 : lw_tbl[1505]? = some ((Jvm.Cond.selects "TreasureWalkModel" ({ cls := "TreasureWalkModel", name := "state", desc := "(I)I" } : Jvm.MethodName) ({ cls := "TreasureWalkModel", name := "state", desc := "(I)I" } : Jvm.MethodName))) := by decide +kernel
theorem tw_w1506 : lw_tbl[1506]? = some ((Jvm.Cond.code ({ cls := "TreasureWalkModel", name := "state", desc := "(I)I" } : Jvm.MethodName) prog_14_method_64_code (2 : Nat) (Option.some Jvm.ClassFile.FieldType.int))) := by decide +kernel
theorem tw_w1507 : lw_tbl[1507]? = some ((Jvm.Cond.methodLink "TreasureWalkModel" (337 : Nat) ({ cls := "TreasureWalkModel", name := "told", desc := "(I)I" } : Jvm.MethodName))) := by decide +kernel
theorem tw_w1509 : lw_tbl[1509]? = some ((Jvm.Cond.instanceMethod ({ cls := "TreasureWalkModel", name := "told", desc := "(I)I" } : Jvm.MethodName))) := by decide +kernel
theorem tw_w1510 : lw_tbl[1510]? = some ((Jvm.Cond.code ({ cls := "TreasureWalkModel", name := "told", desc := "(I)I" } : Jvm.MethodName) prog_14_method_63_code (2 : Nat) (Option.some Jvm.ClassFile.FieldType.int))) := by decide +kernel
theorem tw_w1511 : lw_tbl[1511]? = some ((Jvm.Cond.methodLink "TreasureWalkModel" (325 : Nat) ({ cls := "TreasureWalkModel", name := "marks", desc := "()I" } : Jvm.MethodName))) := by decide +kernel
theorem tw_w1513 : lw_tbl[1513]? = some ((Jvm.Cond.instanceMethod ({ cls := "TreasureWalkModel", name := "marks", desc := "()I" } : Jvm.MethodName))) := by decide +kernel
theorem tw_w1514 : lw_tbl[1514]? = some ((Jvm.Cond.code ({ cls := "TreasureWalkModel", name := "marks", desc := "()I" } : Jvm.MethodName) prog_14_method_60_code (3 : Nat) (Option.some Jvm.ClassFile.FieldType.int))) := by decide +kernel
theorem tw_w1515 : lw_tbl[1515]? = some ((Jvm.Cond.methodLink "TreasureWalkModel" (328 : Nat) ({ cls := "TreasureWalkModel", name := "used", desc := "()I" } : Jvm.MethodName))) := by decide +kernel
theorem tw_w1517 : lw_tbl[1517]? = some ((Jvm.Cond.instanceMethod ({ cls := "TreasureWalkModel", name := "used", desc := "()I" } : Jvm.MethodName))) := by decide +kernel
theorem tw_w1518 : lw_tbl[1518]? = some ((Jvm.Cond.code ({ cls := "TreasureWalkModel", name := "used", desc := "()I" } : Jvm.MethodName) prog_14_method_61_code (3 : Nat) (Option.some Jvm.ClassFile.FieldType.int))) := by decide +kernel
theorem tw_w1519 : lw_tbl[1519]? = some ((Jvm.Cond.methodLink "TreasureWalkModel" (331 : Nat) ({ cls := "TreasureWalkModel", name := "count", desc := "(I)I" } : Jvm.MethodName))) := by decide +kernel
theorem tw_w1521 : lw_tbl[1521]? = some ((Jvm.Cond.instanceMethod ({ cls := "TreasureWalkModel", name := "count", desc := "(I)I" } : Jvm.MethodName))) := by decide +kernel
theorem tw_w1522 : lw_tbl[1522]? = some ((Jvm.Cond.code ({ cls := "TreasureWalkModel", name := "count", desc := "(I)I" } : Jvm.MethodName) prog_14_method_62_code (4 : Nat) (Option.some Jvm.ClassFile.FieldType.int))) := by decide +kernel
theorem tw_w1523 : lw_tbl[1523]? = some ((Jvm.Cond.methodLink "TreasureWalkModel" (290 : Nat) ({ cls := "TreasureWalkModel", name := "cells", desc := "()I" } : Jvm.MethodName))) := by decide +kernel
theorem tw_w1525 : lw_tbl[1525]? = some ((Jvm.Cond.instanceMethod ({ cls := "TreasureWalkModel", name := "cells", desc := "()I" } : Jvm.MethodName))) := by decide +kernel
theorem tw_w1526 : lw_tbl[1526]? = some ((Jvm.Cond.code ({ cls := "TreasureWalkModel", name := "cells", desc := "()I" } : Jvm.MethodName) prog_14_method_37_code (1 : Nat) (Option.some Jvm.ClassFile.FieldType.int))) := by decide +kernel
theorem tw_w1527 : lw_tbl[1527]? = some ((Jvm.Cond.methodLink "TreasureWalkModel" (315 : Nat) ({ cls := "TreasureWalkModel", name := "isCandidate", desc := "(I)Z" } : Jvm.MethodName))) := by decide +kernel
theorem tw_w1529 : lw_tbl[1529]? = some ((Jvm.Cond.instanceMethod ({ cls := "TreasureWalkModel", name := "isCandidate", desc := "(I)Z" } : Jvm.MethodName))) := by decide +kernel
theorem tw_w1530 : lw_tbl[1530]? = some ((Jvm.Cond.code ({ cls := "TreasureWalkModel", name := "isCandidate", desc := "(I)Z" } : Jvm.MethodName) prog_14_method_52_code (2 : Nat) (Option.some Jvm.ClassFile.FieldType.boolean))) := by decide +kernel
theorem tw_w1531 : lw_tbl[1531]? = some ((Jvm.Cond.methodLink "TreasureWalkModel" (274 : Nat) ({ cls := "TreasureWalkModel", name := "isLand", desc := "(I)Z" } : Jvm.MethodName))) := by decide +kernel
theorem tw_w1533 : lw_tbl[1533]? = some ((Jvm.Cond.instanceMethod ({ cls := "TreasureWalkModel", name := "isLand", desc := "(I)Z" } : Jvm.MethodName))) := by decide +kernel
theorem tw_w1534 : lw_tbl[1534]? = some ((Jvm.Cond.code ({ cls := "TreasureWalkModel", name := "isLand", desc := "(I)Z" } : Jvm.MethodName) prog_14_method_39_code (2 : Nat) (Option.some Jvm.ClassFile.FieldType.boolean))) := by decide +kernel
theorem tw_w1535 : lw_tbl[1535]? = some ((Jvm.Cond.methodLink "TreasureWalkModel" (312 : Nat) ({ cls := "TreasureWalkModel", name := "firstWithout", desc := "(I)I" } : Jvm.MethodName))) := by decide +kernel
theorem tw_w1537 : lw_tbl[1537]? = some ((Jvm.Cond.instanceMethod ({ cls := "TreasureWalkModel", name := "firstWithout", desc := "(I)I" } : Jvm.MethodName))) := by decide +kernel
theorem tw_w1538 : lw_tbl[1538]? = some ((Jvm.Cond.code ({ cls := "TreasureWalkModel", name := "firstWithout", desc := "(I)I" } : Jvm.MethodName) prog_14_method_51_code (3 : Nat) (Option.some Jvm.ClassFile.FieldType.int))) := by decide +kernel
theorem tw_w1539 : lw_tbl[1539]? = some ((Jvm.Cond.methodLink "TreasureWalkModel" (305 : Nat) ({ cls := "TreasureWalkModel", name := "lay", desc := "()V" } : Jvm.MethodName))) := by decide +kernel
theorem tw_w1541 : lw_tbl[1541]? = some ((Jvm.Cond.instanceMethod ({ cls := "TreasureWalkModel", name := "lay", desc := "()V" } : Jvm.MethodName))) := by decide +kernel
theorem tw_w1542 : lw_tbl[1542]? = some ((Jvm.Cond.code ({ cls := "TreasureWalkModel", name := "lay", desc := "()V" } : Jvm.MethodName) prog_14_method_48_code (4 : Nat) (Option.none : Option Jvm.ClassFile.FieldType))) := by decide +kernel
theorem tw_w1543 : lw_tbl[1543]? = some ((Jvm.Cond.methodLink "TreasureWalkModel" (287 : Nat) ({ cls := "TreasureWalkModel", name := "legs", desc := "(I)I" } : Jvm.MethodName))) := by decide +kernel
theorem tw_w1545 : lw_tbl[1545]? = some ((Jvm.Cond.instanceMethod ({ cls := "TreasureWalkModel", name := "legs", desc := "(I)I" } : Jvm.MethodName))) := by decide +kernel
theorem tw_w1546 : lw_tbl[1546]? = some ((Jvm.Cond.code ({ cls := "TreasureWalkModel", name := "legs", desc := "(I)I" } : Jvm.MethodName) prog_14_method_46_code (2 : Nat) (Option.some Jvm.ClassFile.FieldType.int))) := by decide +kernel
theorem tw_w1547 : lw_tbl[1547]? = some ((Jvm.Cond.methodLink "TreasureWalkModel" (293 : Nat) ({ cls := "TreasureWalkModel", name := "startOf", desc := "(II)I" } : Jvm.MethodName))) := by decide +kernel
theorem tw_w1549 : lw_tbl[1549]? = some ((Jvm.Cond.instanceMethod ({ cls := "TreasureWalkModel", name := "startOf", desc := "(II)I" } : Jvm.MethodName))) := by decide +kernel
theorem tw_w1550 : lw_tbl[1550]? = some ((Jvm.Cond.code ({ cls := "TreasureWalkModel", name := "startOf", desc := "(II)I" } : Jvm.MethodName) prog_14_method_47_code (3 : Nat) (Option.some Jvm.ClassFile.FieldType.int))) := by decide +kernel
theorem tw_w1551 : lw_tbl[1551]? = some ((Jvm.Cond.methodLink "TreasureWalkModel" (296 : Nat) ({ cls := "TreasureWalkModel", name := "layLeg", desc := "(II)V" } : Jvm.MethodName))) := by decide +kernel
theorem tw_w1553 : lw_tbl[1553]? = some ((Jvm.Cond.instanceMethod ({ cls := "TreasureWalkModel", name := "layLeg", desc := "(II)V" } : Jvm.MethodName))) := by decide +kernel
theorem tw_w1554 : lw_tbl[1554]? = some ((Jvm.Cond.code ({ cls := "TreasureWalkModel", name := "layLeg", desc := "(II)V" } : Jvm.MethodName) prog_14_method_49_code (6 : Nat) (Option.none : Option Jvm.ClassFile.FieldType))) := by decide +kernel
theorem tw_w1555 : lw_tbl[1555]? = some ((Jvm.Cond.methodLink "TreasureWalkModel" (299 : Nat) ({ cls := "TreasureWalkModel", name := "legAt", desc := "(II)I" } : Jvm.MethodName))) := by decide +kernel
theorem tw_w1556 : lw_tbl[1556]? = some ((Jvm.Cond.static ({ cls := "TreasureWalkModel", name := "legAt", desc := "(II)I" } : Jvm.MethodName))) := by decide +kernel
theorem tw_w1557 : lw_tbl[1557]? = some ((Jvm.Cond.code ({ cls := "TreasureWalkModel", name := "legAt", desc := "(II)I" } : Jvm.MethodName) prog_14_method_45_code (2 : Nat) (Option.some Jvm.ClassFile.FieldType.int))) := by decide +kernel
theorem tw_w1558 : lw_tbl[1558]? = some ((Jvm.Cond.methodLink "TreasureWalkModel" (302 : Nat) ({ cls := "TreasureWalkModel", name := "layEnds", desc := "(II)I" } : Jvm.MethodName))) := by decide +kernel
theorem tw_w1560 : lw_tbl[1560]? = some ((Jvm.Cond.instanceMethod ({ cls := "TreasureWalkModel", name := "layEnds", desc := "(II)I" } : Jvm.MethodName))) := by decide +kernel
theorem tw_w1561 : lw_tbl[1561]? = some ((Jvm.Cond.code ({ cls := "TreasureWalkModel", name := "layEnds", desc := "(II)I" } : Jvm.MethodName) prog_14_method_44_code (11 : Nat) (Option.some Jvm.ClassFile.FieldType.int))) := by decide +kernel
theorem tw_w1562 : lw_tbl[1562]? = some ((Jvm.Cond.methodLink "TreasureWalkModel" (280 : Nat) ({ cls := "TreasureWalkModel", name := "step", desc := "(II)I" } : Jvm.MethodName))) := by decide +kernel
theorem tw_w1564 : lw_tbl[1564]? = some ((Jvm.Cond.instanceMethod ({ cls := "TreasureWalkModel", name := "step", desc := "(II)I" } : Jvm.MethodName))) := by decide +kernel
theorem tw_w1565 : lw_tbl[1565]? = some ((Jvm.Cond.code ({ cls := "TreasureWalkModel", name := "step", desc := "(II)I" } : Jvm.MethodName) prog_14_method_43_code (8 : Nat) (Option.some Jvm.ClassFile.FieldType.int))) := by decide +kernel
theorem tw_w1566 : lw_tbl[1566]? = some ((Jvm.Cond.methodLink "TreasureWalkModel" (277 : Nat) ({ cls := "TreasureWalkModel", name := "neighbour", desc := "(II)I" } : Jvm.MethodName))) := by decide +kernel
theorem tw_w1568 : lw_tbl[1568]? = some ((Jvm.Cond.instanceMethod ({ cls := "TreasureWalkModel", name := "neighbour", desc := "(II)I" } : Jvm.MethodName))) := by decide +kernel
theorem tw_w1569 : lw_tbl[1569]? = some ((Jvm.Cond.code ({ cls := "TreasureWalkModel", name := "neighbour", desc := "(II)I" } : Jvm.MethodName) prog_14_method_42_code (5 : Nat) (Option.some Jvm.ClassFile.FieldType.int))) := by decide +kernel
theorem tw_w1570 : lw_tbl[1570]? = some ((Jvm.Cond.methodLink "TreasureWalkModel" (265 : Nat) ({ cls := "TreasureWalkModel", name := "eastOf", desc := "(I)I" } : Jvm.MethodName))) := by decide +kernel
theorem tw_w1571 : lw_tbl[1571]? = some ((Jvm.Cond.static ({ cls := "TreasureWalkModel", name := "eastOf", desc := "(I)I" } : Jvm.MethodName))) := by decide +kernel
theorem tw_w1572 : lw_tbl[1572]? = some ((Jvm.Cond.code ({ cls := "TreasureWalkModel", name := "eastOf", desc := "(I)I" } : Jvm.MethodName) prog_14_method_40_code (1 : Nat) (Option.some Jvm.ClassFile.FieldType.int))) := by decide +kernel
theorem tw_w1573 : lw_tbl[1573]? = some ((Jvm.Cond.methodLink "TreasureWalkModel" (268 : Nat) ({ cls := "TreasureWalkModel", name := "southOf", desc := "(I)I" } : Jvm.MethodName))) := by decide +kernel
theorem tw_w1574 : lw_tbl[1574]? = some ((Jvm.Cond.static ({ cls := "TreasureWalkModel", name := "southOf", desc := "(I)I" } : Jvm.MethodName))) := by decide +kernel
theorem tw_w1575 : lw_tbl[1575]? = some ((Jvm.Cond.code ({ cls := "TreasureWalkModel", name := "southOf", desc := "(I)I" } : Jvm.MethodName) prog_14_method_41_code (1 : Nat) (Option.some Jvm.ClassFile.FieldType.int))) := by decide +kernel
theorem tw_w1576 : lw_tbl[1576]? = some ((Jvm.Cond.methodLink "TreasureWalkModel" (271 : Nat) ({ cls := "TreasureWalkModel", name := "cellAt", desc := "(II)I" } : Jvm.MethodName))) := by decide +kernel
theorem tw_w1578 : lw_tbl[1578]? = some ((Jvm.Cond.instanceMethod ({ cls := "TreasureWalkModel", name := "cellAt", desc := "(II)I" } : Jvm.MethodName))) := by decide +kernel
theorem tw_w1579 : lw_tbl[1579]? = some ((Jvm.Cond.code ({ cls := "TreasureWalkModel", name := "cellAt", desc := "(II)I" } : Jvm.MethodName) prog_14_method_38_code (3 : Nat) (Option.some Jvm.ClassFile.FieldType.int))) := by decide +kernel
theorem tw_w1580 : lw_tbl[1580]? = some ((Jvm.Cond.methodLink "TreasureWalkModel" (308 : Nat) ({ cls := "TreasureWalkModel", name := "isInRegion", desc := "(II)Z" } : Jvm.MethodName))) := by decide +kernel
theorem tw_w1582 : lw_tbl[1582]? = some ((Jvm.Cond.instanceMethod ({ cls := "TreasureWalkModel", name := "isInRegion", desc := "(II)Z" } : Jvm.MethodName))) := by decide +kernel
theorem tw_w1583 : lw_tbl[1583]? = some ((Jvm.Cond.code ({ cls := "TreasureWalkModel", name := "isInRegion", desc := "(II)Z" } : Jvm.MethodName) prog_14_method_50_code (3 : Nat) (Option.some Jvm.ClassFile.FieldType.boolean))) := by decide +kernel
theorem tw_w1584 : lw_tbl[1584]? = some ((Jvm.Cond.methodLink "TreasureWalkModel" (322 : Nat) ({ cls := "TreasureWalkModel", name := "isLeft", desc := "(I)Z" } : Jvm.MethodName))) := by decide +kernel
theorem tw_w1586 : lw_tbl[1586]? = some ((Jvm.Cond.instanceMethod ({ cls := "TreasureWalkModel", name := "isLeft", desc := "(I)Z" } : Jvm.MethodName))) := by decide +kernel
theorem tw_w1587 : lw_tbl[1587]? = some ((Jvm.Cond.code ({ cls := "TreasureWalkModel", name := "isLeft", desc := "(I)Z" } : Jvm.MethodName) prog_14_method_53_code (2 : Nat) (Option.some Jvm.ClassFile.FieldType.boolean))) := by decide +kernel
theorem tw_w1588 : lw_tbl[1588]? = some ((Jvm.Cond.methodLink "TreasureWalkModel" (334 : Nat) ({ cls := "TreasureWalkModel", name := "layParts", desc := "()I" } : Jvm.MethodName))) := by decide +kernel
theorem tw_w1590 : lw_tbl[1590]? = some ((Jvm.Cond.instanceMethod ({ cls := "TreasureWalkModel", name := "layParts", desc := "()I" } : Jvm.MethodName))) := by decide +kernel
theorem tw_w1591 : lw_tbl[1591]? = some ((Jvm.Cond.code ({ cls := "TreasureWalkModel", name := "layParts", desc := "()I" } : Jvm.MethodName) prog_14_method_57_code (7 : Nat) (Option.some Jvm.ClassFile.FieldType.int))) := by decide +kernel
theorem tw_w1593 : lw_tbl[1593]? = some ((Jvm.Cond.instanceMethod ({ cls := "TreasureWalkModel", name := "cell", desc := "(II)I" } : Jvm.MethodName))) := by decide +kernel
theorem tw_w1594 : lw_tbl[1594]? = some ((Jvm.Cond.selects "TreasureWalkModel" ({ cls := "TreasureWalkModel", name := "cell", desc := "(II)I" } : Jvm.MethodName) ({ cls := "TreasureWalkModel", name := "cell", desc := "(II)I" } : Jvm.MethodName))) := by decide +kernel
theorem tw_w1595 : lw_tbl[1595]? = some ((Jvm.Cond.code ({ cls := "TreasureWalkModel", name := "cell", desc := "(II)I" } : Jvm.MethodName) prog_14_method_66_code (3 : Nat) (Option.some Jvm.ClassFile.FieldType.int))) := by decide +kernel
theorem tw_w1596 : lw_tbl[1596]? = some ((Jvm.Cond.methodLink "TreasureWalkModel" (340 : Nat) ({ cls := "TreasureWalkModel", name := "noCell", desc := "(II)Z" } : Jvm.MethodName))) := by decide +kernel
theorem tw_w1598 : lw_tbl[1598]? = some ((Jvm.Cond.instanceMethod ({ cls := "TreasureWalkModel", name := "noCell", desc := "(II)Z" } : Jvm.MethodName))) := by decide +kernel
theorem tw_w1599 : lw_tbl[1599]? = some ((Jvm.Cond.code ({ cls := "TreasureWalkModel", name := "noCell", desc := "(II)Z" } : Jvm.MethodName) prog_14_method_58_code (3 : Nat) (Option.some Jvm.ClassFile.FieldType.boolean))) := by decide +kernel
theorem tw_w1600 : lw_tbl[1600]? = some ((Jvm.Cond.methodLink "TreasureWalkModel" (343 : Nat) ({ cls := "TreasureWalkModel", name := "toldCell", desc := "(I)I" } : Jvm.MethodName))) := by decide +kernel
theorem tw_w1602 : lw_tbl[1602]? = some ((Jvm.Cond.instanceMethod ({ cls := "TreasureWalkModel", name := "toldCell", desc := "(I)I" } : Jvm.MethodName))) := by decide +kernel
theorem tw_w1603 : lw_tbl[1603]? = some ((Jvm.Cond.code ({ cls := "TreasureWalkModel", name := "toldCell", desc := "(I)I" } : Jvm.MethodName) prog_14_method_65_code (2 : Nat) (Option.some Jvm.ClassFile.FieldType.int))) := by decide +kernel
theorem tw_w1605 : lw_tbl[1605]? = some ((Jvm.Cond.instanceMethod ({ cls := "TreasureWalkModel", name := "pace", desc := "(III)I" } : Jvm.MethodName))) := by decide +kernel
theorem tw_w1606 : lw_tbl[1606]? = some ((Jvm.Cond.selects "TreasureWalkModel" ({ cls := "TreasureWalkModel", name := "pace", desc := "(III)I" } : Jvm.MethodName) ({ cls := "TreasureWalkModel", name := "pace", desc := "(III)I" } : Jvm.MethodName))) := by decide +kernel
theorem tw_w1607 : lw_tbl[1607]? = some ((Jvm.Cond.code ({ cls := "TreasureWalkModel", name := "pace", desc := "(III)I" } : Jvm.MethodName) prog_14_method_67_code (4 : Nat) (Option.some Jvm.ClassFile.FieldType.int))) := by decide +kernel
theorem tw_w1609 : lw_tbl[1609]? = some ((Jvm.Cond.instanceMethod ({ cls := "TreasureWalkModel", name := "reached", desc := "(II)I" } : Jvm.MethodName))) := by decide +kernel
theorem tw_w1610 : lw_tbl[1610]? = some ((Jvm.Cond.selects "TreasureWalkModel" ({ cls := "TreasureWalkModel", name := "reached", desc := "(II)I" } : Jvm.MethodName) ({ cls := "TreasureWalkModel", name := "reached", desc := "(II)I" } : Jvm.MethodName))) := by decide +kernel
theorem tw_w1611 : lw_tbl[1611]? = some ((Jvm.Cond.code ({ cls := "TreasureWalkModel", name := "reached", desc := "(II)I" } : Jvm.MethodName) prog_14_method_69_code (3 : Nat) (Option.some Jvm.ClassFile.FieldType.int))) := by decide +kernel
theorem tw_w1612 : lw_tbl[1612]? = some ((Jvm.Cond.methodLink "TreasureWalkModel" (346 : Nat) ({ cls := "TreasureWalkModel", name := "noClue", desc := "(I)Z" } : Jvm.MethodName))) := by decide +kernel
theorem tw_w1614 : lw_tbl[1614]? = some ((Jvm.Cond.instanceMethod ({ cls := "TreasureWalkModel", name := "noClue", desc := "(I)Z" } : Jvm.MethodName))) := by decide +kernel
theorem tw_w1615 : lw_tbl[1615]? = some ((Jvm.Cond.code ({ cls := "TreasureWalkModel", name := "noClue", desc := "(I)Z" } : Jvm.MethodName) prog_14_method_59_code (2 : Nat) (Option.some Jvm.ClassFile.FieldType.boolean))) := by decide +kernel
theorem tw_w1616 : lw_tbl[1616]? = some ((Jvm.Cond.methodLink "TreasureWalkModel" (349 : Nat) ({ cls := "TreasureWalkModel", name := "reachedBy", desc := "(II)I" } : Jvm.MethodName))) := by decide +kernel
theorem tw_w1618 : lw_tbl[1618]? = some ((Jvm.Cond.instanceMethod ({ cls := "TreasureWalkModel", name := "reachedBy", desc := "(II)I" } : Jvm.MethodName))) := by decide +kernel
theorem tw_w1619 : lw_tbl[1619]? = some ((Jvm.Cond.code ({ cls := "TreasureWalkModel", name := "reachedBy", desc := "(II)I" } : Jvm.MethodName) prog_14_method_68_code (5 : Nat) (Option.some Jvm.ClassFile.FieldType.int))) := by decide +kernel
theorem tw_w1621 : lw_tbl[1621]? = some ((Jvm.Cond.instanceMethod ({ cls := "TreasureWalkModel", name := "ends", desc := "(III)Z" } : Jvm.MethodName))) := by decide +kernel
theorem tw_w1622 : lw_tbl[1622]? = some ((Jvm.Cond.selects "TreasureWalkModel" ({ cls := "TreasureWalkModel", name := "ends", desc := "(III)Z" } : Jvm.MethodName) ({ cls := "TreasureWalkModel", name := "ends", desc := "(III)Z" } : Jvm.MethodName))) := by decide +kernel
theorem tw_w1623 : lw_tbl[1623]? = some ((Jvm.Cond.code ({ cls := "TreasureWalkModel", name := "ends", desc := "(III)Z" } : Jvm.MethodName) prog_14_method_70_code (4 : Nat) (Option.some Jvm.ClassFile.FieldType.boolean))) := by decide +kernel
theorem tw_w1625 : lw_tbl[1625]? = some ((Jvm.Cond.instanceMethod ({ cls := "TreasureWalkModel", name := "why", desc := "(II)I" } : Jvm.MethodName))) := by decide +kernel
theorem tw_w1626 : lw_tbl[1626]? = some ((Jvm.Cond.selects "TreasureWalkModel" ({ cls := "TreasureWalkModel", name := "why", desc := "(II)I" } : Jvm.MethodName) ({ cls := "TreasureWalkModel", name := "why", desc := "(II)I" } : Jvm.MethodName))) := by decide +kernel
theorem tw_w1627 : lw_tbl[1627]? = some ((Jvm.Cond.code ({ cls := "TreasureWalkModel", name := "why", desc := "(II)I" } : Jvm.MethodName) prog_14_method_71_code (3 : Nat) (Option.some Jvm.ClassFile.FieldType.int))) := by decide +kernel
theorem tw_w1629 : lw_tbl[1629]? = some ((Jvm.Cond.instanceMethod ({ cls := "TreasureWalkModel", name := "walk", desc := "(IIII)I" } : Jvm.MethodName))) := by decide +kernel
theorem tw_w1630 : lw_tbl[1630]? = some ((Jvm.Cond.selects "TreasureWalkModel" ({ cls := "TreasureWalkModel", name := "walk", desc := "(IIII)I" } : Jvm.MethodName) ({ cls := "TreasureWalkModel", name := "walk", desc := "(IIII)I" } : Jvm.MethodName))) := by decide +kernel
theorem tw_w1631 : lw_tbl[1631]? = some ((Jvm.Cond.code ({ cls := "TreasureWalkModel", name := "walk", desc := "(IIII)I" } : Jvm.MethodName) prog_14_method_72_code (9 : Nat) (Option.some Jvm.ClassFile.FieldType.int))) := by decide +kernel
theorem tw_w1632 : lw_tbl[1632]? = some ((Jvm.Cond.methodLink "TreasureWalkModel" (352 : Nat) ({ cls := "TreasureWalkModel", name := "layLeads", desc := "(II)V" } : Jvm.MethodName))) := by decide +kernel
theorem tw_w1634 : lw_tbl[1634]? = some ((Jvm.Cond.instanceMethod ({ cls := "TreasureWalkModel", name := "layLeads", desc := "(II)V" } : Jvm.MethodName))) := by decide +kernel
theorem tw_w1635 : lw_tbl[1635]? = some ((Jvm.Cond.code ({ cls := "TreasureWalkModel", name := "layLeads", desc := "(II)V" } : Jvm.MethodName) prog_14_method_54_code (6 : Nat) (Option.none : Option Jvm.ClassFile.FieldType))) := by decide +kernel
theorem tw_w1636 : lw_tbl[1636]? = some ((Jvm.Cond.methodLink "TreasureWalkModel" (318 : Nat) ({ cls := "TreasureWalkModel", name := "endOf", desc := "(III)I" } : Jvm.MethodName))) := by decide +kernel
theorem tw_w1638 : lw_tbl[1638]? = some ((Jvm.Cond.instanceMethod ({ cls := "TreasureWalkModel", name := "endOf", desc := "(III)I" } : Jvm.MethodName))) := by decide +kernel
theorem tw_w1639 : lw_tbl[1639]? = some ((Jvm.Cond.code ({ cls := "TreasureWalkModel", name := "endOf", desc := "(III)I" } : Jvm.MethodName) prog_14_method_55_code (6 : Nat) (Option.some Jvm.ClassFile.FieldType.int))) := by decide +kernel
theorem tw_w1641 : lw_tbl[1641]? = some ((Jvm.Cond.instanceMethod ({ cls := "TreasureWalkModel", name := "starts", desc := "(III)I" } : Jvm.MethodName))) := by decide +kernel
theorem tw_w1642 : lw_tbl[1642]? = some ((Jvm.Cond.selects "TreasureWalkModel" ({ cls := "TreasureWalkModel", name := "starts", desc := "(III)I" } : Jvm.MethodName) ({ cls := "TreasureWalkModel", name := "starts", desc := "(III)I" } : Jvm.MethodName))) := by decide +kernel
theorem tw_w1643 : lw_tbl[1643]? = some ((Jvm.Cond.code ({ cls := "TreasureWalkModel", name := "starts", desc := "(III)I" } : Jvm.MethodName) prog_14_method_73_code (6 : Nat) (Option.some Jvm.ClassFile.FieldType.int))) := by decide +kernel
theorem tw_w1645 : lw_tbl[1645]? = some ((Jvm.Cond.instanceMethod ({ cls := "TreasureWalkModel", name := "distance", desc := "(II)I" } : Jvm.MethodName))) := by decide +kernel
theorem tw_w1646 : lw_tbl[1646]? = some ((Jvm.Cond.selects "TreasureWalkModel" ({ cls := "TreasureWalkModel", name := "distance", desc := "(II)I" } : Jvm.MethodName) ({ cls := "TreasureWalkModel", name := "distance", desc := "(II)I" } : Jvm.MethodName))) := by decide +kernel
theorem tw_w1647 : lw_tbl[1647]? = some ((Jvm.Cond.code ({ cls := "TreasureWalkModel", name := "distance", desc := "(II)I" } : Jvm.MethodName) prog_14_method_74_code (3 : Nat) (Option.some Jvm.ClassFile.FieldType.int))) := by decide +kernel
theorem tw_w1648 : lw_tbl[1648]? = some ((Jvm.Cond.methodLink "TreasureWalkModel" (355 : Nat) ({ cls := "TreasureWalkModel", name := "layFar", desc := "(I)V" } : Jvm.MethodName))) := by decide +kernel
theorem tw_w1650 : lw_tbl[1650]? = some ((Jvm.Cond.instanceMethod ({ cls := "TreasureWalkModel", name := "layFar", desc := "(I)V" } : Jvm.MethodName))) := by decide +kernel
theorem tw_w1651 : lw_tbl[1651]? = some ((Jvm.Cond.code ({ cls := "TreasureWalkModel", name := "layFar", desc := "(I)V" } : Jvm.MethodName) prog_14_method_56_code (6 : Nat) (Option.none : Option Jvm.ClassFile.FieldType))) := by decide +kernel
theorem tw_w1653 : lw_tbl[1653]? = some ((Jvm.Cond.instanceMethod ({ cls := "TreasureWalkModel", name := "nearest", desc := "()I" } : Jvm.MethodName))) := by decide +kernel
theorem tw_w1654 : lw_tbl[1654]? = some ((Jvm.Cond.selects "TreasureWalkModel" ({ cls := "TreasureWalkModel", name := "nearest", desc := "()I" } : Jvm.MethodName) ({ cls := "TreasureWalkModel", name := "nearest", desc := "()I" } : Jvm.MethodName))) := by decide +kernel
theorem tw_w1655 : lw_tbl[1655]? = some ((Jvm.Cond.code ({ cls := "TreasureWalkModel", name := "nearest", desc := "()I" } : Jvm.MethodName) prog_14_method_75_code (3 : Nat) (Option.some Jvm.ClassFile.FieldType.int))) := by decide +kernel
theorem tw_w1657 : lw_tbl[1657]? = some ((Jvm.Cond.instanceMethod ({ cls := "TreasureWalkModel", name := "tour", desc := "()I" } : Jvm.MethodName))) := by decide +kernel
theorem tw_w1658 : lw_tbl[1658]? = some ((Jvm.Cond.selects "TreasureWalkModel" ({ cls := "TreasureWalkModel", name := "tour", desc := "()I" } : Jvm.MethodName) ({ cls := "TreasureWalkModel", name := "tour", desc := "()I" } : Jvm.MethodName))) := by decide +kernel
theorem tw_w1659 : lw_tbl[1659]? = some ((Jvm.Cond.code ({ cls := "TreasureWalkModel", name := "tour", desc := "()I" } : Jvm.MethodName) prog_14_method_76_code (4 : Nat) (Option.some Jvm.ClassFile.FieldType.int))) := by decide +kernel
theorem tw_w1660 : lw_tbl[1660]? = some ((Jvm.Cond.methodLink "TreasureWalkModel" (358 : Nat) ({ cls := "TreasureWalkModel", name := "shortest", desc := "(I)I" } : Jvm.MethodName))) := by decide +kernel
theorem tw_w1662 : lw_tbl[1662]? = some ((Jvm.Cond.instanceMethod ({ cls := "TreasureWalkModel", name := "shortest", desc := "(I)I" } : Jvm.MethodName))) := by decide +kernel
theorem tw_w1663 : lw_tbl[1663]? = some ((Jvm.Cond.code ({ cls := "TreasureWalkModel", name := "shortest", desc := "(I)I" } : Jvm.MethodName) prog_14_method_77_code (8 : Nat) (Option.some Jvm.ClassFile.FieldType.int))) := by decide +kernel
theorem tw_w1664 : lw_tbl[1664]? = some ((Jvm.Cond.constant "TreasureWalkModel" (361 : Nat) (1000000 : Int32))) := by decide +kernel
theorem tw_w1666 : lw_tbl[1666]? = some ((Jvm.Cond.instanceMethod ({ cls := "TreasureWalkModel", name := "part", desc := "(II)I" } : Jvm.MethodName))) := by decide +kernel
theorem tw_w1667 : lw_tbl[1667]? = some ((Jvm.Cond.selects "TreasureWalkModel" ({ cls := "TreasureWalkModel", name := "part", desc := "(II)I" } : Jvm.MethodName) ({ cls := "TreasureWalkModel", name := "part", desc := "(II)I" } : Jvm.MethodName))) := by decide +kernel
theorem tw_w1668 : lw_tbl[1668]? = some ((Jvm.Cond.code ({ cls := "TreasureWalkModel", name := "part", desc := "(II)I" } : Jvm.MethodName) prog_14_method_78_code (6 : Nat) (Option.some Jvm.ClassFile.FieldType.int))) := by decide +kernel
theorem tw_w1674 : lw_tbl[1674]? = some ((Jvm.Cond.instanceMethod ({ cls := "TreasureWalkModel", name := "chestIsLeft", desc := "()Z" } : Jvm.MethodName))) := by decide +kernel
theorem tw_w1675 : lw_tbl[1675]? = some ((Jvm.Cond.selects "TreasureWalkModel" ({ cls := "TreasureWalkModel", name := "chestIsLeft", desc := "()Z" } : Jvm.MethodName) ({ cls := "TreasureWalkModel", name := "chestIsLeft", desc := "()Z" } : Jvm.MethodName))) := by decide +kernel
theorem tw_w1676 : lw_tbl[1676]? = some ((Jvm.Cond.code ({ cls := "TreasureWalkModel", name := "chestIsLeft", desc := "()Z" } : Jvm.MethodName) prog_14_method_80_code (1 : Nat) (Option.some Jvm.ClassFile.FieldType.boolean))) := by decide +kernel
theorem tw_w1678 : lw_tbl[1678]? = some ((Jvm.Cond.instanceMethod ({ cls := "TreasureWalkModel", name := "moveTo", desc := "(II)I" } : Jvm.MethodName))) := by decide +kernel
theorem tw_w1679 : lw_tbl[1679]? = some ((Jvm.Cond.selects "TreasureWalkModel" ({ cls := "TreasureWalkModel", name := "moveTo", desc := "(II)I" } : Jvm.MethodName) ({ cls := "TreasureWalkModel", name := "moveTo", desc := "(II)I" } : Jvm.MethodName))) := by decide +kernel
theorem tw_w1680 : lw_tbl[1680]? = some ((Jvm.Cond.code ({ cls := "TreasureWalkModel", name := "moveTo", desc := "(II)I" } : Jvm.MethodName) prog_14_method_82_code (4 : Nat) (Option.some Jvm.ClassFile.FieldType.int))) := by decide +kernel
theorem tw_w1682 : lw_tbl[1682]? = some ((Jvm.Cond.instanceMethod ({ cls := "TreasureWalkModel", name := "dig", desc := "()I" } : Jvm.MethodName))) := by decide +kernel
theorem tw_w1683 : lw_tbl[1683]? = some ((Jvm.Cond.selects "TreasureWalkModel" ({ cls := "TreasureWalkModel", name := "dig", desc := "()I" } : Jvm.MethodName) ({ cls := "TreasureWalkModel", name := "dig", desc := "()I" } : Jvm.MethodName))) := by decide +kernel
theorem tw_w1684 : lw_tbl[1684]? = some ((Jvm.Cond.code ({ cls := "TreasureWalkModel", name := "dig", desc := "()I" } : Jvm.MethodName) prog_14_method_83_code (3 : Nat) (Option.some Jvm.ClassFile.FieldType.int))) := by decide +kernel
theorem tw_w1686 : lw_tbl[1686]? = some ((Jvm.Cond.instanceMethod ({ cls := "TreasureWalkModel", name := "use", desc := "(IZ)I" } : Jvm.MethodName))) := by decide +kernel
theorem tw_w1687 : lw_tbl[1687]? = some ((Jvm.Cond.selects "TreasureWalkModel" ({ cls := "TreasureWalkModel", name := "use", desc := "(IZ)I" } : Jvm.MethodName) ({ cls := "TreasureWalkModel", name := "use", desc := "(IZ)I" } : Jvm.MethodName))) := by decide +kernel
theorem tw_w1688 : lw_tbl[1688]? = some ((Jvm.Cond.code ({ cls := "TreasureWalkModel", name := "use", desc := "(IZ)I" } : Jvm.MethodName) prog_14_method_84_code (3 : Nat) (Option.some Jvm.ClassFile.FieldType.int))) := by decide +kernel
theorem tw_w1690 : lw_tbl[1690]? = some ((Jvm.Cond.instanceMethod ({ cls := "TreasureWalkModel", name := "hide", desc := "(I)I" } : Jvm.MethodName))) := by decide +kernel
theorem tw_w1691 : lw_tbl[1691]? = some ((Jvm.Cond.selects "TreasureWalkModel" ({ cls := "TreasureWalkModel", name := "hide", desc := "(I)I" } : Jvm.MethodName) ({ cls := "TreasureWalkModel", name := "hide", desc := "(I)I" } : Jvm.MethodName))) := by decide +kernel
theorem tw_w1692 : lw_tbl[1692]? = some ((Jvm.Cond.code ({ cls := "TreasureWalkModel", name := "hide", desc := "(I)I" } : Jvm.MethodName) prog_14_method_85_code (5 : Nat) (Option.some Jvm.ClassFile.FieldType.int))) := by decide +kernel
theorem tw_w1694 : lw_tbl[1694]? = some ((Jvm.Cond.instanceMethod ({ cls := "TreasureWalkModel", name := "turn", desc := "(II)I" } : Jvm.MethodName))) := by decide +kernel
theorem tw_w1695 : lw_tbl[1695]? = some ((Jvm.Cond.selects "TreasureWalkModel" ({ cls := "TreasureWalkModel", name := "turn", desc := "(II)I" } : Jvm.MethodName) ({ cls := "TreasureWalkModel", name := "turn", desc := "(II)I" } : Jvm.MethodName))) := by decide +kernel
theorem tw_w1696 : lw_tbl[1696]? = some ((Jvm.Cond.code ({ cls := "TreasureWalkModel", name := "turn", desc := "(II)I" } : Jvm.MethodName) prog_14_method_86_code (5 : Nat) (Option.some Jvm.ClassFile.FieldType.int))) := by decide +kernel
theorem tw_w1698 : lw_tbl[1698]? = some ((Jvm.Cond.instanceMethod ({ cls := "TreasureWalkModel", name := "undo", desc := "()I" } : Jvm.MethodName))) := by decide +kernel
theorem tw_w1699 : lw_tbl[1699]? = some ((Jvm.Cond.selects "TreasureWalkModel" ({ cls := "TreasureWalkModel", name := "undo", desc := "()I" } : Jvm.MethodName) ({ cls := "TreasureWalkModel", name := "undo", desc := "()I" } : Jvm.MethodName))) := by decide +kernel
theorem tw_w1700 : lw_tbl[1700]? = some ((Jvm.Cond.code ({ cls := "TreasureWalkModel", name := "undo", desc := "()I" } : Jvm.MethodName) prog_14_method_87_code (1 : Nat) (Option.some Jvm.ClassFile.FieldType.int))) := by decide +kernel
theorem tw_w1702 : lw_tbl[1702]? = some ((Jvm.Cond.instanceMethod ({ cls := "TreasureWalkModel", name := "checksum", desc := "()J" } : Jvm.MethodName))) := by decide +kernel
theorem tw_w1703 : lw_tbl[1703]? = some ((Jvm.Cond.selects "TreasureWalkModel" ({ cls := "TreasureWalkModel", name := "checksum", desc := "()J" } : Jvm.MethodName) ({ cls := "TreasureWalkModel", name := "checksum", desc := "()J" } : Jvm.MethodName))) := by decide +kernel
theorem tw_w1704 : lw_tbl[1704]? = some ((Jvm.Cond.code ({ cls := "TreasureWalkModel", name := "checksum", desc := "()J" } : Jvm.MethodName) prog_14_method_88_code (5 : Nat) (Option.some Jvm.ClassFile.FieldType.long))) := by decide +kernel
theorem tw_w1705 : lw_tbl[1705]? = some ((Jvm.Cond.constantLong "TreasureWalkModel" (365 : Nat) (31 : Int64))) := by decide +kernel
theorem tw_kc0 : tw_kd 0 = 11 := by decide +kernel
theorem tw_kc1 : tw_kd 1 = 2 := by decide +kernel
theorem tw_kc2 : tw_kd 2 = 0 := by decide +kernel
theorem tw_kc4 : tw_kd 4 = 0 := by decide +kernel
theorem tw_kc6 : tw_kd 6 = 7 := by decide +kernel
theorem tw_kc8 : tw_kd 8 = 7 := by decide +kernel
theorem tw_kc10 : tw_kd 10 = 7 := by decide +kernel
theorem tw_kc12 : tw_kd 12 = 7 := by decide +kernel
theorem tw_kc14 : tw_kd 14 = 1 := by decide +kernel
theorem tw_kc15 : tw_kd 15 = 7 := by decide +kernel
theorem tw_kc17 : tw_kd 17 = 7 := by decide +kernel
theorem tw_kc21 : tw_kd 21 = 7 := by decide +kernel
theorem tw_kc23 : tw_kd 23 = 7 := by decide +kernel
theorem tw_kc25 : tw_kd 25 = 7 := by decide +kernel
theorem tw_kc27 : tw_kd 27 = 7 := by decide +kernel
theorem tw_kc29 : tw_kd 29 = 7 := by decide +kernel
theorem tw_kc31 : tw_kd 31 = 7 := by decide +kernel
theorem tw_kc33 : tw_kd 33 = 10 := by decide +kernel
theorem tw_kc34 : tw_kd 34 = 7 := by decide +kernel
theorem tw_kc36 : tw_kd 36 = 5 := by decide +kernel
theorem tw_kc112 : tw_kd 112 = 5 := by decide +kernel
theorem tw_kc134 : tw_kd 134 = 8 := by decide +kernel
theorem tw_kc135 : tw_kd 135 = 3 := by decide +kernel
theorem tw_kc136 : tw_kd 136 = 7 := by decide +kernel
theorem tw_kc138 : tw_kd 138 = 7 := by decide +kernel
theorem tw_kc140 : tw_kd 140 = 0 := by decide +kernel
theorem tw_kc142 : tw_kd 142 = 4 := by decide +kernel
theorem tw_kc143 : tw_kd 143 = 16 := by decide +kernel
theorem tw_kc400 : tw_kd 400 = 6 := by decide +kernel
theorem tw_kc401 : tw_kd 401 = 7 := by decide +kernel
theorem tw_kc403 : tw_kd 403 = 2 := by decide +kernel
theorem tw_kc404 : tw_kd 404 = 0 := by decide +kernel
theorem tw_kc408 : tw_kd 408 = 7 := by decide +kernel
theorem tw_kc416 : tw_kd 416 = 1 := by decide +kernel
theorem tw_kc417 : tw_kd 417 = 7 := by decide +kernel
theorem tw_kc423 : tw_kd 423 = 7 := by decide +kernel
theorem tw_kc425 : tw_kd 425 = 7 := by decide +kernel
theorem tw_kc427 : tw_kd 427 = 7 := by decide +kernel
theorem tw_kc429 : tw_kd 429 = 7 := by decide +kernel
theorem tw_kc431 : tw_kd 431 = 7 := by decide +kernel
theorem tw_kc433 : tw_kd 433 = 7 := by decide +kernel
theorem tw_kc435 : tw_kd 435 = 9 := by decide +kernel
theorem tw_kc436 : tw_kd 436 = 7 := by decide +kernel
theorem tw_kc438 : tw_kd 438 = 7 := by decide +kernel
theorem tw_kc440 : tw_kd 440 = 7 := by decide +kernel
theorem tw_kc442 : tw_kd 442 = 12 := by decide +kernel
theorem tw_kc443 : tw_kd 443 = 13 := by decide +kernel
theorem tw_kc444 : tw_kd 444 = 13 := by decide +kernel
theorem tw_kc445 : tw_kd 445 = 13 := by decide +kernel
theorem tw_kc446 : tw_kd 446 = 17 := by decide +kernel
theorem tw_kc455 : tw_kd 455 = 13 := by decide +kernel
theorem tw_kc456 : tw_kd 456 = 13 := by decide +kernel
theorem tw_kc457 : tw_kd 457 = 19 := by decide +kernel
theorem tw_kc498 : tw_kd 498 = 18 := by decide +kernel
theorem tw_kc508 : tw_kd 508 = 13 := by decide +kernel
theorem tw_kc509 : tw_kd 509 = 13 := by decide +kernel
theorem tw_kc510 : tw_kd 510 = 13 := by decide +kernel
theorem tw_kc511 : tw_kd 511 = 13 := by decide +kernel
theorem tw_kc512 : tw_kd 512 = 13 := by decide +kernel
theorem tw_kc513 : tw_kd 513 = 17 := by decide +kernel
theorem tw_kc523 : tw_kd 523 = 17 := by decide +kernel
theorem tw_l_A_81 : ("TreasureWalk", 81, "the buffer has no such length", 21) ∈ tw_ldc := by decide
theorem tw_l_A_155 : ("TreasureWalk", 155, "what is not 0 to 12", 22) ∈ tw_ldc := by decide
theorem tw_l_A_167 : ("TreasureWalk", 167, "there is no such bearing", 23) ∈ tw_ldc := by decide
theorem tw_l_A_184 : ("TreasureWalk", 184, "the clue has not so many legs", 24) ∈ tw_ldc := by decide
theorem tw_l_A_199 : ("TreasureWalk", 199, "the clue has no such leg", 25) ∈ tw_ldc := by decide
theorem tw_l_A_204 : ("TreasureWalk", 204, "no walk of the clue ends there", 26) ∈ tw_ldc := by decide
theorem tw_l_A_243 : ("TreasureWalk", 243, "n is not 0 to 9999", 27) ∈ tw_ldc := by decide
theorem tw_l_A_248 : ("TreasureWalk", 248, "there is no such bend", 28) ∈ tw_ldc := by decide
theorem tw_l_A_250 : ("TreasureWalk", 250, "turn is not -3 to 3", 29) ∈ tw_ldc := by decide
theorem tw_l_A_274 : ("TreasureWalk", 274, "there is no such cell", 30) ∈ tw_ldc := by decide
theorem tw_l_A_276 : ("TreasureWalk", 276, "there is no such clue", 31) ∈ tw_ldc := by decide
theorem tw_l_R_56 : ("TreasureWalk$Reader", 56, "water", 0) ∈ tw_ldc := by decide
theorem tw_l_R_65 : ("TreasureWalk$Reader", 65, "bend", 1) ∈ tw_ldc := by decide
theorem tw_l_R_70 : ("TreasureWalk$Reader", 70, "mark", 2) ∈ tw_ldc := by decide
theorem tw_l_R_75 : ("TreasureWalk$Reader", 75, "team", 3) ∈ tw_ldc := by decide
theorem tw_l_R_80 : ("TreasureWalk$Reader", 80, "clue", 4) ∈ tw_ldc := by decide
theorem tw_l_R_103 : ("TreasureWalk$Reader", 103, "walk", 5) ∈ tw_ldc := by decide
theorem tw_l_R_146 : ("TreasureWalk$Reader", 146, "left", 6) ∈ tw_ldc := by decide
theorem tw_l_R_148 : ("TreasureWalk$Reader", 148, "right", 7) ∈ tw_ldc := by decide
theorem tw_l_R_177 : ("TreasureWalk$Reader", 177, "or", 8) ∈ tw_ldc := by decide
theorem tw_l_R_198 : ("TreasureWalk$Reader", 198, "go", 9) ∈ tw_ldc := by decide
theorem tw_l_R_200 : ("TreasureWalk$Reader", 200, "to", 10) ∈ tw_ldc := by decide
theorem tw_l_R_202 : ("TreasureWalk$Reader", 202, "end", 11) ∈ tw_ldc := by decide
theorem tw_l_R_209 : ("TreasureWalk$Reader", 209, "give", 12) ∈ tw_ldc := by decide
theorem tw_l_R_244 : ("TreasureWalk$Reader", 244, "n", 13) ∈ tw_ldc := by decide
theorem tw_l_R_246 : ("TreasureWalk$Reader", 246, "ne", 14) ∈ tw_ldc := by decide
theorem tw_l_R_248 : ("TreasureWalk$Reader", 248, "e", 15) ∈ tw_ldc := by decide
theorem tw_l_R_250 : ("TreasureWalk$Reader", 250, "se", 16) ∈ tw_ldc := by decide
theorem tw_l_R_252 : ("TreasureWalk$Reader", 252, "s", 17) ∈ tw_ldc := by decide
theorem tw_l_R_254 : ("TreasureWalk$Reader", 254, "sw", 18) ∈ tw_ldc := by decide
theorem tw_l_R_256 : ("TreasureWalk$Reader", 256, "w", 19) ∈ tw_ldc := by decide
theorem tw_l_R_258 : ("TreasureWalk$Reader", 258, "nw", 20) ∈ tw_ldc := by decide
theorem tw_l_M_159 : ("TreasureWalkModel", 159, "left", 6) ∈ tw_ldc := by decide
theorem tw_l_M_165 : ("TreasureWalkModel", 165, "right", 7) ∈ tw_ldc := by decide
theorem tw_l_M_179 : ("TreasureWalkModel", 179, "n", 13) ∈ tw_ldc := by decide
theorem tw_l_M_181 : ("TreasureWalkModel", 181, "ne", 14) ∈ tw_ldc := by decide
theorem tw_l_M_183 : ("TreasureWalkModel", 183, "e", 15) ∈ tw_ldc := by decide
theorem tw_l_M_185 : ("TreasureWalkModel", 185, "se", 16) ∈ tw_ldc := by decide
theorem tw_l_M_187 : ("TreasureWalkModel", 187, "s", 17) ∈ tw_ldc := by decide
theorem tw_l_M_189 : ("TreasureWalkModel", 189, "sw", 18) ∈ tw_ldc := by decide
theorem tw_l_M_191 : ("TreasureWalkModel", 191, "w", 19) ∈ tw_ldc := by decide
theorem tw_l_M_193 : ("TreasureWalkModel", 193, "nw", 20) ∈ tw_ldc := by decide
theorem tw_l_M_198 : ("TreasureWalkModel", 198, "give", 12) ∈ tw_ldc := by decide
theorem tw_l_M_207 : ("TreasureWalkModel", 207, "or", 8) ∈ tw_ldc := by decide
theorem tw_l_M_209 : ("TreasureWalkModel", 209, "go", 9) ∈ tw_ldc := by decide
theorem tw_l_M_211 : ("TreasureWalkModel", 211, "to", 10) ∈ tw_ldc := by decide
theorem tw_l_M_213 : ("TreasureWalkModel", 213, "end", 11) ∈ tw_ldc := by decide
theorem tw_l_M_218 : ("TreasureWalkModel", 218, "water", 0) ∈ tw_ldc := by decide
theorem tw_l_M_223 : ("TreasureWalkModel", 223, "bend", 1) ∈ tw_ldc := by decide
theorem tw_l_M_228 : ("TreasureWalkModel", 228, "mark", 2) ∈ tw_ldc := by decide
theorem tw_l_M_233 : ("TreasureWalkModel", 233, "team", 3) ∈ tw_ldc := by decide
theorem tw_l_M_238 : ("TreasureWalkModel", 238, "clue", 4) ∈ tw_ldc := by decide
theorem tw_l_M_250 : ("TreasureWalkModel", 250, "walk", 5) ∈ tw_ldc := by decide
