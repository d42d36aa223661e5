def ev_tl : List (String × Nat) := [("TreasureWalk$Reader", 56), ("TreasureWalk$Reader", 65), ("TreasureWalk$Reader", 70), ("TreasureWalk$Reader", 75), ("TreasureWalk$Reader", 80), ("TreasureWalk$Reader", 103), ("TreasureWalk$Reader", 146), ("TreasureWalk$Reader", 148), ("TreasureWalk$Reader", 177), ("TreasureWalk$Reader", 198), ("TreasureWalk$Reader", 200), ("TreasureWalk$Reader", 202), ("TreasureWalk$Reader", 209), ("TreasureWalk$Reader", 244), ("TreasureWalk$Reader", 246), ("TreasureWalk$Reader", 248), ("TreasureWalk$Reader", 250), ("TreasureWalk$Reader", 252), ("TreasureWalk$Reader", 254), ("TreasureWalk$Reader", 256), ("TreasureWalk$Reader", 258), ("TreasureWalkLaw", 100), ("TreasureWalkLaw", 108), ("TreasureWalkLaw", 122), ("TreasureWalkLaw", 127), ("TreasureWalkLaw", 159), ("TreasureWalkLaw", 165), ("TreasureWalkLaw", 167), ("TreasureWalkLaw", 173), ("TreasureWalkLaw", 175), ("TreasureWalkLaw", 203), ("TreasureWalkLaw", 205), ("TreasureWalkLaw", 215), ("TreasureWalk", 81), ("TreasureWalk", 155), ("TreasureWalk", 167), ("TreasureWalk", 184), ("TreasureWalk", 199), ("TreasureWalk", 204), ("TreasureWalk", 243), ("TreasureWalk", 248), ("TreasureWalk", 250), ("TreasureWalk", 274), ("TreasureWalk", 276)]
def ev_tm (j : Nat) : Jvm.Term := .string (ev_tl.getD j ("", 0)).1 (ev_tl.getD j ("", 0)).2
def ev_val (j : Nat) : Jvm.Term := .field (ev_tm j) "java/lang/String" "value" "[B"
def ev_fl : List Jvm.Cond := flatC (Jvm.Cond.and given_1 narrow_1)
def ev_w1 : List Jvm.Cond := (List.range 44).map fun i => .exactly (ev_tm i) "java/lang/String"
def ev_w2 : List Jvm.Cond := (List.range 33).flatMap fun i => [.eq (.field (ev_tm i) "java/lang/String" "coder" "B") (.int 0), .arrayOf (ev_val i) .byte, .eq (.length (ev_val i)) (.int (Int32.ofNat (tw_len.getD i 0)))]
def ev_w3 : List Jvm.Cond := (List.range 33).flatMap fun i => (List.range (tw_len.getD i 0)).map fun j => .eq (.elem (ev_val i) (.int (Int32.ofNat j))) (.int ((tw_byt.getD i []).getD j 0))
def ev_w4 : List Jvm.Cond := (List.range 8).map fun j => .eq (.elem (.static "TreasureWalk" "OFFSETS" "[I") (.int (Int32.ofNat j))) (.int (tw_off j))
def ev_w5 : List Jvm.Cond := [.eq (ev_tm 5) (.string "TreasureWalkLaw" 193), .eq (ev_tm 0) (.string "TreasureWalkLaw" 194), .eq (ev_tm 1) (.string "TreasureWalkLaw" 201), .eq (ev_tm 3) (.string "TreasureWalkLaw" 220), .eq (ev_tm 13) (.string "TreasureWalkLaw" 334), .eq (ev_tm 14) (.string "TreasureWalkLaw" 336), .eq (ev_tm 15) (.string "TreasureWalkLaw" 338), .eq (ev_tm 16) (.string "TreasureWalkLaw" 340), .eq (ev_tm 17) (.string "TreasureWalkLaw" 342), .eq (ev_tm 18) (.string "TreasureWalkLaw" 344), .eq (ev_tm 19) (.string "TreasureWalkLaw" 346), .eq (ev_tm 20) (.string "TreasureWalkLaw" 348)]
def ev_w6 : List Jvm.Cond := [.eq (.elem (.static "TreasureWalkLaw" "BEARINGS" "[Ljava/lang/String;") (.int 0)) (.string "TreasureWalkLaw" 334), .eq (.elem (.static "TreasureWalkLaw" "BEARINGS" "[Ljava/lang/String;") (.int 1)) (.string "TreasureWalkLaw" 336), .eq (.elem (.static "TreasureWalkLaw" "BEARINGS" "[Ljava/lang/String;") (.int 2)) (.string "TreasureWalkLaw" 338), .eq (.elem (.static "TreasureWalkLaw" "BEARINGS" "[Ljava/lang/String;") (.int 3)) (.string "TreasureWalkLaw" 340), .eq (.elem (.static "TreasureWalkLaw" "BEARINGS" "[Ljava/lang/String;") (.int 4)) (.string "TreasureWalkLaw" 342), .eq (.elem (.static "TreasureWalkLaw" "BEARINGS" "[Ljava/lang/String;") (.int 5)) (.string "TreasureWalkLaw" 344), .eq (.elem (.static "TreasureWalkLaw" "BEARINGS" "[Ljava/lang/String;") (.int 6)) (.string "TreasureWalkLaw" 346), .eq (.elem (.static "TreasureWalkLaw" "BEARINGS" "[Ljava/lang/String;") (.int 7)) (.string "TreasureWalkLaw" 348)]
def ev_ps : List Nat := [446, 455, 480, 488, 496, 438, 463, 471, 504, 510, 516, 522, 573, 529, 534, 540, 545, 551, 556, 562, 567, 800, 873, 882, 890, 894, 901, 909, 917, 805, 829, 838, 848]
def ev_blk (i : Nat) : List Jvm.Cond := [.eq (.field (ev_tm i) "java/lang/String" "coder" "B") (.int 0), .arrayOf (ev_val i) .byte, .eq (.length (ev_val i)) (.int (Int32.ofNat (tw_len.getD i 0)))] ++ (List.range (tw_len.getD i 0)).map fun j => .eq (.elem (ev_val i) (.int (Int32.ofNat j))) (.int ((tw_byt.getD i []).getD j 0))
theorem ev_hq0 : ∀ i, i < 11 → (ev_fl.drop (ev_ps.getD (0 + i) 0)).take (3 + tw_len.getD (0 + i) 0) = ev_blk (0 + i) := by decide +kernel
theorem ev_hq11 : ∀ i, i < 11 → (ev_fl.drop (ev_ps.getD (11 + i) 0)).take (3 + tw_len.getD (11 + i) 0) = ev_blk (11 + i) := by decide +kernel
theorem ev_hq22 : ∀ i, i < 11 → (ev_fl.drop (ev_ps.getD (22 + i) 0)).take (3 + tw_len.getD (22 + i) 0) = ev_blk (22 + i) := by decide +kernel
theorem ev_hq {i : Nat} (hi : i < 33) : (ev_fl.drop (ev_ps.getD i 0)).take (3 + tw_len.getD i 0) = ev_blk i := by
  by_cases h1 : i < 11
  · have := ev_hq0 i h1; rwa [Nat.zero_add] at this
  · by_cases h2 : i < 22
    · have := ev_hq11 (i - 11) (by omega); rwa [show 11 + (i - 11) = i from by omega] at this
    · have := ev_hq22 (i - 22) (by omega); rwa [show 22 + (i - 22) = i from by omega] at this
theorem ev_hb {i : Nat} (hi : i < 33) : ∀ w ∈ ev_blk i, w ∈ ev_fl := fun w hw => by
  rw [← ev_hq hi] at hw
  exact List.mem_of_mem_drop (List.mem_of_mem_take hw)
theorem ev_h2 : ∀ w ∈ ev_w2, w ∈ ev_fl := fun w hw => by
  obtain ⟨i, hi, h⟩ := List.mem_flatMap.mp hw
  exact ev_hb (List.mem_range.mp hi) w (List.mem_append.mpr (Or.inl h))
theorem ev_h3 : ∀ w ∈ ev_w3, w ∈ ev_fl := fun w hw => by
  obtain ⟨i, hi, h⟩ := List.mem_flatMap.mp hw
  exact ev_hb (List.mem_range.mp hi) w (List.mem_append.mpr (Or.inr h))
theorem ev_h1 : ∀ w ∈ ev_w1, w ∈ ev_fl := by decide +kernel
theorem ev_h4 : ∀ w ∈ ev_w4, w ∈ ev_fl := by decide +kernel
theorem ev_h5 : ∀ w ∈ ev_w5, w ∈ ev_fl := by decide +kernel
theorem ev_h6 : ∀ w ∈ ev_w6, w ∈ ev_fl := by decide +kernel
theorem ev_apart : ∀ i, i < 33 → ∀ j, j < 33 → i ≠ j → tw_len.getD i 0 ≠ tw_len.getD j 0 ∨ ∃ k, k < tw_len.getD i 0 ∧ (tw_byt.getD i []).getD k 0 ≠ (tw_byt.getD j []).getD k 0 := by decide +kernel
theorem ev_len : ∀ i, i < 33 → tw_len.getD i 0 < 10 := by decide +kernel
