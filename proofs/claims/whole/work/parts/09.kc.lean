theorem tw_kc0 : tw_kd 0 = 11 := by decide +kernel
theorem tw_kc1 : tw_kd 1 = 2 := by decide +kernel
theorem tw_kc2 : tw_kd 2 = 0 := by decide +kernel
theorem tw_kc4 : tw_kd 4 = 0 := by decide +kernel
theorem tw_kc6 : tw_kd 6 = 7 := by decide +kernel
theorem tw_kc8 : tw_kd 8 = 7 := by decide +kernel
theorem tw_kc10 : tw_kd 10 = 7 := by decide +kernel
theorem tw_kc12 : tw_kd 12 = 7 := by decide +kernel
theorem tw_kc14 : tw_kd 14 = 1 := by decide +kernel
theorem tw_kc15 : tw_kd 15 = 7 := by decide +kernel
theorem tw_kc17 : tw_kd 17 = 7 := by decide +kernel
theorem tw_kc21 : tw_kd 21 = 7 := by decide +kernel
theorem tw_kc23 : tw_kd 23 = 7 := by decide +kernel
theorem tw_kc25 : tw_kd 25 = 7 := by decide +kernel
theorem tw_kc27 : tw_kd 27 = 7 := by decide +kernel
theorem tw_kc29 : tw_kd 29 = 7 := by decide +kernel
theorem tw_kc31 : tw_kd 31 = 7 := by decide +kernel
theorem tw_kc33 : tw_kd 33 = 10 := by decide +kernel
theorem tw_kc34 : tw_kd 34 = 7 := by decide +kernel
theorem tw_kc36 : tw_kd 36 = 5 := by decide +kernel
theorem tw_kc112 : tw_kd 112 = 5 := by decide +kernel
theorem tw_kc134 : tw_kd 134 = 8 := by decide +kernel
theorem tw_kc135 : tw_kd 135 = 3 := by decide +kernel
theorem tw_kc136 : tw_kd 136 = 7 := by decide +kernel
theorem tw_kc138 : tw_kd 138 = 7 := by decide +kernel
theorem tw_kc140 : tw_kd 140 = 0 := by decide +kernel
theorem tw_kc142 : tw_kd 142 = 4 := by decide +kernel
theorem tw_kc143 : tw_kd 143 = 16 := by decide +kernel
theorem tw_kc400 : tw_kd 400 = 6 := by decide +kernel
theorem tw_kc401 : tw_kd 401 = 7 := by decide +kernel
theorem tw_kc403 : tw_kd 403 = 2 := by decide +kernel
theorem tw_kc404 : tw_kd 404 = 0 := by decide +kernel
theorem tw_kc408 : tw_kd 408 = 7 := by decide +kernel
theorem tw_kc416 : tw_kd 416 = 1 := by decide +kernel
theorem tw_kc417 : tw_kd 417 = 7 := by decide +kernel
theorem tw_kc423 : tw_kd 423 = 7 := by decide +kernel
theorem tw_kc425 : tw_kd 425 = 7 := by decide +kernel
theorem tw_kc427 : tw_kd 427 = 7 := by decide +kernel
theorem tw_kc429 : tw_kd 429 = 7 := by decide +kernel
theorem tw_kc431 : tw_kd 431 = 7 := by decide +kernel
theorem tw_kc433 : tw_kd 433 = 7 := by decide +kernel
theorem tw_kc435 : tw_kd 435 = 9 := by decide +kernel
theorem tw_kc436 : tw_kd 436 = 7 := by decide +kernel
theorem tw_kc438 : tw_kd 438 = 7 := by decide +kernel
theorem tw_kc440 : tw_kd 440 = 7 := by decide +kernel
theorem tw_kc442 : tw_kd 442 = 12 := by decide +kernel
theorem tw_kc443 : tw_kd 443 = 13 := by decide +kernel
theorem tw_kc444 : tw_kd 444 = 13 := by decide +kernel
theorem tw_kc445 : tw_kd 445 = 13 := by decide +kernel
theorem tw_kc446 : tw_kd 446 = 17 := by decide +kernel
theorem tw_kc455 : tw_kd 455 = 13 := by decide +kernel
theorem tw_kc456 : tw_kd 456 = 13 := by decide +kernel
theorem tw_kc457 : tw_kd 457 = 19 := by decide +kernel
theorem tw_kc498 : tw_kd 498 = 18 := by decide +kernel
theorem tw_kc508 : tw_kd 508 = 13 := by decide +kernel
theorem tw_kc509 : tw_kd 509 = 13 := by decide +kernel
theorem tw_kc510 : tw_kd 510 = 13 := by decide +kernel
theorem tw_kc511 : tw_kd 511 = 13 := by decide +kernel
theorem tw_kc512 : tw_kd 512 = 13 := by decide +kernel
theorem tw_kc513 : tw_kd 513 = 17 := by decide +kernel
theorem tw_kc523 : tw_kd 523 = 17 := by decide +kernel
theorem tw_l_A_81 : ("TreasureWalk", 81, "the buffer has no such length", 21) ∈ tw_ldc := by decide
theorem tw_l_A_155 : ("TreasureWalk", 155, "what is not 0 to 12", 22) ∈ tw_ldc := by decide
theorem tw_l_A_167 : ("TreasureWalk", 167, "there is no such bearing", 23) ∈ tw_ldc := by decide
theorem tw_l_A_184 : ("TreasureWalk", 184, "the clue has not so many legs", 24) ∈ tw_ldc := by decide
theorem tw_l_A_199 : ("TreasureWalk", 199, "the clue has no such leg", 25) ∈ tw_ldc := by decide
theorem tw_l_A_204 : ("TreasureWalk", 204, "no walk of the clue ends there", 26) ∈ tw_ldc := by decide
theorem tw_l_A_243 : ("TreasureWalk", 243, "n is not 0 to 9999", 27) ∈ tw_ldc := by decide
theorem tw_l_A_248 : ("TreasureWalk", 248, "there is no such bend", 28) ∈ tw_ldc := by decide
theorem tw_l_A_250 : ("TreasureWalk", 250, "turn is not -3 to 3", 29) ∈ tw_ldc := by decide
theorem tw_l_A_274 : ("TreasureWalk", 274, "there is no such cell", 30) ∈ tw_ldc := by decide
theorem tw_l_A_276 : ("TreasureWalk", 276, "there is no such clue", 31) ∈ tw_ldc := by decide
theorem tw_l_R_56 : ("TreasureWalk$Reader", 56, "water", 0) ∈ tw_ldc := by decide
theorem tw_l_R_65 : ("TreasureWalk$Reader", 65, "bend", 1) ∈ tw_ldc := by decide
theorem tw_l_R_70 : ("TreasureWalk$Reader", 70, "mark", 2) ∈ tw_ldc := by decide
theorem tw_l_R_75 : ("TreasureWalk$Reader", 75, "team", 3) ∈ tw_ldc := by decide
theorem tw_l_R_80 : ("TreasureWalk$Reader", 80, "clue", 4) ∈ tw_ldc := by decide
theorem tw_l_R_103 : ("TreasureWalk$Reader", 103, "walk", 5) ∈ tw_ldc := by decide
theorem tw_l_R_146 : ("TreasureWalk$Reader", 146, "left", 6) ∈ tw_ldc := by decide
theorem tw_l_R_148 : ("TreasureWalk$Reader", 148, "right", 7) ∈ tw_ldc := by decide
theorem tw_l_R_177 : ("TreasureWalk$Reader", 177, "or", 8) ∈ tw_ldc := by decide
theorem tw_l_R_198 : ("TreasureWalk$Reader", 198, "go", 9) ∈ tw_ldc := by decide
theorem tw_l_R_200 : ("TreasureWalk$Reader", 200, "to", 10) ∈ tw_ldc := by decide
theorem tw_l_R_202 : ("TreasureWalk$Reader", 202, "end", 11) ∈ tw_ldc := by decide
theorem tw_l_R_209 : ("TreasureWalk$Reader", 209, "give", 12) ∈ tw_ldc := by decide
theorem tw_l_R_244 : ("TreasureWalk$Reader", 244, "n", 13) ∈ tw_ldc := by decide
theorem tw_l_R_246 : ("TreasureWalk$Reader", 246, "ne", 14) ∈ tw_ldc := by decide
theorem tw_l_R_248 : ("TreasureWalk$Reader", 248, "e", 15) ∈ tw_ldc := by decide
theorem tw_l_R_250 : ("TreasureWalk$Reader", 250, "se", 16) ∈ tw_ldc := by decide
theorem tw_l_R_252 : ("TreasureWalk$Reader", 252, "s", 17) ∈ tw_ldc := by decide
theorem tw_l_R_254 : ("TreasureWalk$Reader", 254, "sw", 18) ∈ tw_ldc := by decide
theorem tw_l_R_256 : ("TreasureWalk$Reader", 256, "w", 19) ∈ tw_ldc := by decide
theorem tw_l_R_258 : ("TreasureWalk$Reader", 258, "nw", 20) ∈ tw_ldc := by decide
theorem tw_l_M_159 : ("TreasureWalkModel", 159, "left", 6) ∈ tw_ldc := by decide
theorem tw_l_M_165 : ("TreasureWalkModel", 165, "right", 7) ∈ tw_ldc := by decide
theorem tw_l_M_179 : ("TreasureWalkModel", 179, "n", 13) ∈ tw_ldc := by decide
theorem tw_l_M_181 : ("TreasureWalkModel", 181, "ne", 14) ∈ tw_ldc := by decide
theorem tw_l_M_183 : ("TreasureWalkModel", 183, "e", 15) ∈ tw_ldc := by decide
theorem tw_l_M_185 : ("TreasureWalkModel", 185, "se", 16) ∈ tw_ldc := by decide
theorem tw_l_M_187 : ("TreasureWalkModel", 187, "s", 17) ∈ tw_ldc := by decide
theorem tw_l_M_189 : ("TreasureWalkModel", 189, "sw", 18) ∈ tw_ldc := by decide
theorem tw_l_M_191 : ("TreasureWalkModel", 191, "w", 19) ∈ tw_ldc := by decide
theorem tw_l_M_193 : ("TreasureWalkModel", 193, "nw", 20) ∈ tw_ldc := by decide
theorem tw_l_M_198 : ("TreasureWalkModel", 198, "give", 12) ∈ tw_ldc := by decide
theorem tw_l_M_207 : ("TreasureWalkModel", 207, "or", 8) ∈ tw_ldc := by decide
theorem tw_l_M_209 : ("TreasureWalkModel", 209, "go", 9) ∈ tw_ldc := by decide
theorem tw_l_M_211 : ("TreasureWalkModel", 211, "to", 10) ∈ tw_ldc := by decide
theorem tw_l_M_213 : ("TreasureWalkModel", 213, "end", 11) ∈ tw_ldc := by decide
theorem tw_l_M_218 : ("TreasureWalkModel", 218, "water", 0) ∈ tw_ldc := by decide
theorem tw_l_M_223 : ("TreasureWalkModel", 223, "bend", 1) ∈ tw_ldc := by decide
theorem tw_l_M_228 : ("TreasureWalkModel", 228, "mark", 2) ∈ tw_ldc := by decide
theorem tw_l_M_233 : ("TreasureWalkModel", 233, "team", 3) ∈ tw_ldc := by decide
theorem tw_l_M_238 : ("TreasureWalkModel", 238, "clue", 4) ∈ tw_ldc := by decide
theorem tw_l_M_250 : ("TreasureWalkModel", 250, "walk", 5) ∈ tw_ldc := by decide
