theorem tw_kc0 : tw_kd 0 = 11 := by decide +kernel
theorem tw_kc1 : tw_kd 1 = 2 := by decide +kernel
theorem tw_kc2 : tw_kd 2 = 0 := by decide +kernel
theorem tw_kc4 : tw_kd 4 = 0 := by decide +kernel
theorem tw_kc6 : tw_kd 6 = 7 := by decide +kernel
theorem tw_kc8 : tw_kd 8 = 7 := by decide +kernel
theorem tw_kc10 : tw_kd 10 = 7 := by decide +kernel
theorem tw_kc12 : tw_kd 12 = 7 := by decide +kernel
theorem tw_kc14 : tw_kd 14 = 1 := by decide +kernel
theorem tw_kc15 : tw_kd 15 = 7 := by decide +kernel
theorem tw_kc17 : tw_kd 17 = 7 := by decide +kernel
theorem tw_kc21 : tw_kd 21 = 7 := by decide +kernel
theorem tw_kc23 : tw_kd 23 = 7 := by decide +kernel
theorem tw_kc25 : tw_kd 25 = 7 := by decide +kernel
theorem tw_kc27 : tw_kd 27 = 7 := by decide +kernel
theorem tw_kc29 : tw_kd 29 = 7 := by decide +kernel
theorem tw_kc31 : tw_kd 31 = 7 := by decide +kernel
theorem tw_kc33 : tw_kd 33 = 10 := by decide +kernel
theorem tw_kc34 : tw_kd 34 = 7 := by decide +kernel
theorem tw_kc36 : tw_kd 36 = 5 := by decide +kernel
theorem tw_kc112 : tw_kd 112 = 5 := by decide +kernel
theorem tw_kc134 : tw_kd 134 = 8 := by decide +kernel
theorem tw_kc135 : tw_kd 135 = 3 := by decide +kernel
theorem tw_kc136 : tw_kd 136 = 7 := by decide +kernel
theorem tw_kc138 : tw_kd 138 = 7 := by decide +kernel
theorem tw_kc140 : tw_kd 140 = 0 := by decide +kernel
theorem tw_kc142 : tw_kd 142 = 4 := by decide +kernel
theorem tw_kc143 : tw_kd 143 = 16 := by decide +kernel
theorem tw_kc400 : tw_kd 400 = 6 := by decide +kernel
theorem tw_kc401 : tw_kd 401 = 7 := by decide +kernel
theorem tw_kc403 : tw_kd 403 = 2 := by decide +kernel
theorem tw_kc404 : tw_kd 404 = 0 := by decide +kernel
theorem tw_kc408 : tw_kd 408 = 7 := by decide +kernel
theorem tw_kc416 : tw_kd 416 = 1 := by decide +kernel
theorem tw_kc417 : tw_kd 417 = 7 := by decide +kernel
theorem tw_kc423 : tw_kd 423 = 7 := by decide +kernel
theorem tw_kc425 : tw_kd 425 = 7 := by decide +kernel
theorem tw_kc427 : tw_kd 427 = 7 := by decide +kernel
theorem tw_kc429 : tw_kd 429 = 7 := by decide +kernel
theorem tw_kc431 : tw_kd 431 = 7 := by decide +kernel
theorem tw_kc433 : tw_kd 433 = 7 := by decide +kernel
theorem tw_l_A_81 : ("TreasureWalk", 81, "the buffer has no such length", 33) ∈ tw_ldc := by decide
theorem tw_l_A_155 : ("TreasureWalk", 155, "what is not 0 to 12", 34) ∈ tw_ldc := by decide
theorem tw_l_A_167 : ("TreasureWalk", 167, "there is no such bearing", 35) ∈ tw_ldc := by decide
theorem tw_l_A_184 : ("TreasureWalk", 184, "the clue has not so many legs", 36) ∈ tw_ldc := by decide
theorem tw_l_A_199 : ("TreasureWalk", 199, "the clue has no such leg", 37) ∈ tw_ldc := by decide
theorem tw_l_A_204 : ("TreasureWalk", 204, "no walk of the clue ends there", 38) ∈ tw_ldc := by decide
theorem tw_l_A_243 : ("TreasureWalk", 243, "n is not 0 to 9999", 39) ∈ tw_ldc := by decide
theorem tw_l_A_248 : ("TreasureWalk", 248, "there is no such bend", 40) ∈ tw_ldc := by decide
theorem tw_l_A_250 : ("TreasureWalk", 250, "turn is not -3 to 3", 41) ∈ tw_ldc := by decide
theorem tw_l_A_274 : ("TreasureWalk", 274, "there is no such cell", 42) ∈ tw_ldc := by decide
theorem tw_l_A_276 : ("TreasureWalk", 276, "there is no such clue", 43) ∈ tw_ldc := by decide
theorem tw_l_R_56 : ("TreasureWalk$Reader", 56, "water", 0) ∈ tw_ldc := by decide
theorem tw_l_R_65 : ("TreasureWalk$Reader", 65, "bend", 1) ∈ tw_ldc := by decide
theorem tw_l_R_70 : ("TreasureWalk$Reader", 70, "mark", 2) ∈ tw_ldc := by decide
theorem tw_l_R_75 : ("TreasureWalk$Reader", 75, "team", 3) ∈ tw_ldc := by decide
theorem tw_l_R_80 : ("TreasureWalk$Reader", 80, "clue", 4) ∈ tw_ldc := by decide
theorem tw_l_R_103 : ("TreasureWalk$Reader", 103, "walk", 5) ∈ tw_ldc := by decide
theorem tw_l_R_146 : ("TreasureWalk$Reader", 146, "left", 6) ∈ tw_ldc := by decide
theorem tw_l_R_148 : ("TreasureWalk$Reader", 148, "right", 7) ∈ tw_ldc := by decide
theorem tw_l_R_177 : ("TreasureWalk$Reader", 177, "or", 8) ∈ tw_ldc := by decide
theorem tw_l_R_198 : ("TreasureWalk$Reader", 198, "go", 9) ∈ tw_ldc := by decide
theorem tw_l_R_200 : ("TreasureWalk$Reader", 200, "to", 10) ∈ tw_ldc := by decide
theorem tw_l_R_202 : ("TreasureWalk$Reader", 202, "end", 11) ∈ tw_ldc := by decide
theorem tw_l_R_209 : ("TreasureWalk$Reader", 209, "give", 12) ∈ tw_ldc := by decide
theorem tw_l_R_244 : ("TreasureWalk$Reader", 244, "n", 13) ∈ tw_ldc := by decide
theorem tw_l_R_246 : ("TreasureWalk$Reader", 246, "ne", 14) ∈ tw_ldc := by decide
theorem tw_l_R_248 : ("TreasureWalk$Reader", 248, "e", 15) ∈ tw_ldc := by decide
theorem tw_l_R_250 : ("TreasureWalk$Reader", 250, "se", 16) ∈ tw_ldc := by decide
theorem tw_l_R_252 : ("TreasureWalk$Reader", 252, "s", 17) ∈ tw_ldc := by decide
theorem tw_l_R_254 : ("TreasureWalk$Reader", 254, "sw", 18) ∈ tw_ldc := by decide
theorem tw_l_R_256 : ("TreasureWalk$Reader", 256, "w", 19) ∈ tw_ldc := by decide
theorem tw_l_R_258 : ("TreasureWalk$Reader", 258, "nw", 20) ∈ tw_ldc := by decide
theorem tw_l_W_100 : ("TreasureWalkLaw", 100, " ", 21) ∈ tw_ldc := by decide
theorem tw_l_W_108 : ("TreasureWalkLaw", 108, "clue ", 22) ∈ tw_ldc := by decide
theorem tw_l_W_122 : ("TreasureWalkLaw", 122, " or ", 23) ∈ tw_ldc := by decide
theorem tw_l_W_127 : ("TreasureWalkLaw", 127, "", 24) ∈ tw_ldc := by decide
theorem tw_l_W_159 : ("TreasureWalkLaw", 159, " go", 25) ∈ tw_ldc := by decide
theorem tw_l_W_165 : ("TreasureWalkLaw", 165, " to ", 26) ∈ tw_ldc := by decide
theorem tw_l_W_167 : ("TreasureWalkLaw", 167, " end", 27) ∈ tw_ldc := by decide
theorem tw_l_W_173 : ("TreasureWalkLaw", 173, " give", 28) ∈ tw_ldc := by decide
theorem tw_l_W_175 : ("TreasureWalkLaw", 175, ";", 29) ∈ tw_ldc := by decide
theorem tw_l_W_193 : ("TreasureWalkLaw", 193, "walk", 5) ∈ tw_ldc := by decide
theorem tw_l_W_194 : ("TreasureWalkLaw", 194, "water", 0) ∈ tw_ldc := by decide
theorem tw_l_W_201 : ("TreasureWalkLaw", 201, "bend", 1) ∈ tw_ldc := by decide
theorem tw_l_W_203 : ("TreasureWalkLaw", 203, " left", 30) ∈ tw_ldc := by decide
theorem tw_l_W_205 : ("TreasureWalkLaw", 205, " right", 31) ∈ tw_ldc := by decide
theorem tw_l_W_215 : ("TreasureWalkLaw", 215, "mark ", 32) ∈ tw_ldc := by decide
theorem tw_l_W_220 : ("TreasureWalkLaw", 220, "team", 3) ∈ tw_ldc := by decide
theorem tw_l_W_334 : ("TreasureWalkLaw", 334, "n", 13) ∈ tw_ldc := by decide
theorem tw_l_W_336 : ("TreasureWalkLaw", 336, "ne", 14) ∈ tw_ldc := by decide
theorem tw_l_W_338 : ("TreasureWalkLaw", 338, "e", 15) ∈ tw_ldc := by decide
theorem tw_l_W_340 : ("TreasureWalkLaw", 340, "se", 16) ∈ tw_ldc := by decide
theorem tw_l_W_342 : ("TreasureWalkLaw", 342, "s", 17) ∈ tw_ldc := by decide
theorem tw_l_W_344 : ("TreasureWalkLaw", 344, "sw", 18) ∈ tw_ldc := by decide
theorem tw_l_W_346 : ("TreasureWalkLaw", 346, "w", 19) ∈ tw_ldc := by decide
theorem tw_l_W_348 : ("TreasureWalkLaw", 348, "nw", 20) ∈ tw_ldc := by decide
