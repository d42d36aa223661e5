theorem tw_i32s (i : Nat) : Int32.ofNat i + Int32.ofInt 1 = Int32.ofNat (i + 1) := by rw [Int32.ofNat_add]; rfl
theorem tw_i32le {a b : Nat} (ha : a < 2147483648) (hb : b < 2147483648) : Int32.ofNat a ≤ Int32.ofNat b ↔ a ≤ b := by
  rw [Int32.le_iff_toInt_le, Int32.toInt_ofNat_of_lt (by simpa using ha), Int32.toInt_ofNat_of_lt (by simpa using hb)]
  omega
theorem tw_i32n {a : Nat} (ha : a < 2147483648) : (Int32.ofNat a).toNatClampNeg = a := Int32.toNatClampNeg_ofNat_of_lt (by simpa using ha)
theorem tw_df0 : ∀ j, j < 1 → defaultValue (tyX0 j) = vp_V [.null] j := by
  intro j hj
  have := List.mem_range.mpr hj
  revert j
  decide +kernel
theorem tw_y_X0_init : tw_My yX0_init cX0_init 1 none 0 := ⟨List.mem_of_getElem? tw_u88, List.mem_of_getElem? tw_u38, by decide +kernel, by decide +kernel, by decide +kernel⟩
theorem tw_df1 : ∀ j, j < 10 → defaultValue (tyX1 j) = vp_V [.int 0, .null, .null, .null, .null, .null, .null, .null, .null, .null] j := by
  intro j hj
  have := List.mem_range.mpr hj
  revert j
  decide +kernel
theorem tw_y_X1_init : tw_My yX1_init cX1_init 1 none 0 := ⟨List.mem_of_getElem? tw_u109, List.mem_of_getElem? tw_u40, by decide +kernel, by decide +kernel, by decide +kernel⟩
theorem tw_df2 : ∀ j, j < 14 → defaultValue (tyX2 j) = vp_V [.int 0, .int 0, .null, .null, .null, .int 0, .null, .null, .null, .null, .int 0, .int 0, .int 0, .int 0] j := by
  intro j hj
  have := List.mem_range.mpr hj
  revert j
  decide +kernel
theorem tw_y_X2_init : tw_My yX2_init cX2_init 1 none 0 := ⟨List.mem_of_getElem? tw_u82, List.mem_of_getElem? tw_u37, by decide +kernel, by decide +kernel, by decide +kernel⟩
theorem tw_df3 : ∀ j, j < 2 → defaultValue (tyX3 j) = vp_V [.null, .null] j := by
  intro j hj
  have := List.mem_range.mpr hj
  revert j
  decide +kernel
theorem tw_y_X3_init : tw_My yX3_init cX3_init 1 none 0 := ⟨List.mem_of_getElem? tw_u311, List.mem_of_getElem? tw_u45, by decide +kernel, by decide +kernel, by decide +kernel⟩
theorem tw_df4 : ∀ j, j < 3 → defaultValue (tyX4 j) = vp_V [.null, .int 0, .int 0] j := by
  intro j hj
  have := List.mem_range.mpr hj
  revert j
  decide +kernel
theorem tw_y_X4_init : tw_My yX4_init cX4_init 2 none 0 := ⟨List.mem_of_getElem? tw_u342, List.mem_of_getElem? tw_u46, by decide +kernel, by decide +kernel, by decide +kernel⟩
theorem tw_df5 : ∀ j, j < 2 → defaultValue (tyX5 j) = vp_V [.null, .null] j := by
  intro j hj
  have := List.mem_range.mpr hj
  revert j
  decide +kernel
theorem tw_y_X5_init : tw_My yX5_init cX5_init 3 none 1 := ⟨List.mem_of_getElem? tw_u276, List.mem_of_getElem? tw_u43, by decide +kernel, by decide +kernel, by decide +kernel⟩
theorem tw_df6 : ∀ j, j < 11 → defaultValue (tyX6 j) = vp_V [.null, .int 0, .null, .int 0, .int 0, .int 0, .int 0, .int 0, .int 0, .int 0, .int 0] j := by
  intro j hj
  have := List.mem_range.mpr hj
  revert j
  decide +kernel
theorem tw_y_X6_init : tw_My yX6_init cX6_init 1 none 0 := ⟨List.mem_of_getElem? tw_u362, List.mem_of_getElem? tw_u47, by decide +kernel, by decide +kernel, by decide +kernel⟩
theorem tw_df7 : ∀ j, j < 1 → defaultValue (tyX7 j) = vp_V [.null] j := by
  intro j hj
  have := List.mem_range.mpr hj
  revert j
  decide +kernel
theorem tw_y_X7_init : tw_My yX7_init cX7_init 2 none 1 := ⟨List.mem_of_getElem? tw_u99, List.mem_of_getElem? tw_u39, by decide +kernel, by decide +kernel, by decide +kernel⟩
theorem tw_df8 : ∀ j, j < 4 → defaultValue (tyX8 j) = vp_V [.null, .null, .null, .null] j := by
  intro j hj
  have := List.mem_range.mpr hj
  revert j
  decide +kernel
theorem tw_y_X8_init : tw_My yX8_init cX8_init 3 none 2 := ⟨List.mem_of_getElem? tw_u305, List.mem_of_getElem? tw_u44, by decide +kernel, by decide +kernel, by decide +kernel⟩
theorem tw_df9 : ∀ j, j < 6 → defaultValue (tyX9 j) = vp_V [.null, .null, .int 0, .null, .null, .null] j := by
  intro j hj
  have := List.mem_range.mpr hj
  revert j
  decide +kernel
theorem tw_y_X9_init : tw_My yX9_init cX9_init 3 none 2 := ⟨List.mem_of_getElem? tw_u409, List.mem_of_getElem? tw_u48, by decide +kernel, by decide +kernel, by decide +kernel⟩
theorem tw_df10 : ∀ j, j < 4 → defaultValue (tyX10 j) = vp_V [.null, .null, .null, .null] j := by
  intro j hj
  have := List.mem_range.mpr hj
  revert j
  decide +kernel
theorem tw_y_X10_init : tw_My yX10_init cX10_init 2 none 1 := ⟨List.mem_of_getElem? tw_u268, List.mem_of_getElem? tw_u42, by decide +kernel, by decide +kernel, by decide +kernel⟩
theorem tw_df11 : ∀ j, j < 7 → defaultValue (tyX11 j) = vp_V [.null, .null, .null, .null, .null, .null, .int 0] j := by
  intro j hj
  have := List.mem_range.mpr hj
  revert j
  decide +kernel
theorem tw_y_X11_init : tw_My yX11_init cX11_init 4 none 0 := ⟨List.mem_of_getElem? tw_u74, List.mem_of_getElem? tw_u36, by decide +kernel, by decide +kernel, by decide +kernel⟩
theorem tw_kd0_1 {k : Nat} (h : tw_kd k = 0) : tw_kd (k + 1) = 13 := by exact eq_of_beq (tw_kdk (f := fun k => tw_kd (k + 1) == 13) (by decide) (by decide +kernel) h)
theorem tw_ln0_1 {k : Nat} (h : tw_kd k = 0) : tw_ln (k + 1) = 22 := by exact eq_of_beq (tw_kdk (f := fun k => tw_ln (k + 1) == 22) (by decide) (by decide +kernel) h)
theorem tw_kd1_1 {k : Nat} (h : tw_kd k = 1) : tw_kd (k + 1) = 7 := by exact eq_of_beq (tw_kdk (f := fun k => tw_kd (k + 1) == 7) (by decide) (by decide +kernel) h)
theorem tw_kd1_2 {k : Nat} (h : tw_kd k = 1) : tw_kd (k + 2) = 13 := by exact eq_of_beq (tw_kdk (f := fun k => tw_kd (k + 2) == 13) (by decide) (by decide +kernel) h)
theorem tw_ln1_2 {k : Nat} (h : tw_kd k = 1) : tw_ln (k + 2) = 4 := by exact eq_of_beq (tw_kdk (f := fun k => tw_ln (k + 2) == 4) (by decide) (by decide +kernel) h)
theorem tw_kd1_3 {k : Nat} (h : tw_kd k = 1) : tw_kd (k + 3) = 7 := by exact eq_of_beq (tw_kdk (f := fun k => tw_kd (k + 3) == 7) (by decide) (by decide +kernel) h)
theorem tw_kd1_4 {k : Nat} (h : tw_kd k = 1) : tw_kd (k + 4) = 13 := by exact eq_of_beq (tw_kdk (f := fun k => tw_kd (k + 4) == 13) (by decide) (by decide +kernel) h)
theorem tw_ln1_4 {k : Nat} (h : tw_kd k = 1) : tw_ln (k + 4) = 4 := by exact eq_of_beq (tw_kdk (f := fun k => tw_ln (k + 4) == 4) (by decide) (by decide +kernel) h)
theorem tw_kd1_5 {k : Nat} (h : tw_kd k = 1) : tw_kd (k + 5) = 7 := by exact eq_of_beq (tw_kdk (f := fun k => tw_kd (k + 5) == 7) (by decide) (by decide +kernel) h)
theorem tw_kd1_6 {k : Nat} (h : tw_kd k = 1) : tw_kd (k + 6) = 13 := by exact eq_of_beq (tw_kdk (f := fun k => tw_kd (k + 6) == 13) (by decide) (by decide +kernel) h)
theorem tw_ln1_6 {k : Nat} (h : tw_kd k = 1) : tw_ln (k + 6) = 32 := by exact eq_of_beq (tw_kdk (f := fun k => tw_ln (k + 6) == 32) (by decide) (by decide +kernel) h)
theorem tw_kd1_7 {k : Nat} (h : tw_kd k = 1) : tw_kd (k + 7) = 7 := by exact eq_of_beq (tw_kdk (f := fun k => tw_kd (k + 7) == 7) (by decide) (by decide +kernel) h)
theorem tw_kd1_8 {k : Nat} (h : tw_kd k = 1) : tw_kd (k + 8) = 13 := by exact eq_of_beq (tw_kdk (f := fun k => tw_kd (k + 8) == 13) (by decide) (by decide +kernel) h)
theorem tw_ln1_8 {k : Nat} (h : tw_kd k = 1) : tw_ln (k + 8) = 4 := by exact eq_of_beq (tw_kdk (f := fun k => tw_ln (k + 8) == 4) (by decide) (by decide +kernel) h)
theorem tw_kd1_9 {k : Nat} (h : tw_kd k = 1) : tw_kd (k + 9) = 7 := by exact eq_of_beq (tw_kdk (f := fun k => tw_kd (k + 9) == 7) (by decide) (by decide +kernel) h)
theorem tw_kd1_10 {k : Nat} (h : tw_kd k = 1) : tw_kd (k + 10) = 13 := by exact eq_of_beq (tw_kdk (f := fun k => tw_kd (k + 10) == 13) (by decide) (by decide +kernel) h)
theorem tw_ln1_10 {k : Nat} (h : tw_kd k = 1) : tw_ln (k + 10) = 32 := by exact eq_of_beq (tw_kdk (f := fun k => tw_ln (k + 10) == 32) (by decide) (by decide +kernel) h)
theorem tw_kd1_11 {k : Nat} (h : tw_kd k = 1) : tw_kd (k + 11) = 7 := by exact eq_of_beq (tw_kdk (f := fun k => tw_kd (k + 11) == 7) (by decide) (by decide +kernel) h)
theorem tw_kd1_12 {k : Nat} (h : tw_kd k = 1) : tw_kd (k + 12) = 13 := by exact eq_of_beq (tw_kdk (f := fun k => tw_kd (k + 12) == 13) (by decide) (by decide +kernel) h)
theorem tw_ln1_12 {k : Nat} (h : tw_kd k = 1) : tw_ln (k + 12) = 32 := by exact eq_of_beq (tw_kdk (f := fun k => tw_ln (k + 12) == 32) (by decide) (by decide +kernel) h)
theorem tw_kd1_13 {k : Nat} (h : tw_kd k = 1) : tw_kd (k + 13) = 7 := by exact eq_of_beq (tw_kdk (f := fun k => tw_kd (k + 13) == 7) (by decide) (by decide +kernel) h)
theorem tw_kd1_14 {k : Nat} (h : tw_kd k = 1) : tw_kd (k + 14) = 13 := by exact eq_of_beq (tw_kdk (f := fun k => tw_kd (k + 14) == 13) (by decide) (by decide +kernel) h)
theorem tw_ln1_14 {k : Nat} (h : tw_kd k = 1) : tw_ln (k + 14) = 32 := by exact eq_of_beq (tw_kdk (f := fun k => tw_ln (k + 14) == 32) (by decide) (by decide +kernel) h)
theorem tw_kd1_15 {k : Nat} (h : tw_kd k = 1) : tw_kd (k + 15) = 7 := by exact eq_of_beq (tw_kdk (f := fun k => tw_kd (k + 15) == 7) (by decide) (by decide +kernel) h)
theorem tw_kd1_16 {k : Nat} (h : tw_kd k = 1) : tw_kd (k + 16) = 13 := by exact eq_of_beq (tw_kdk (f := fun k => tw_kd (k + 16) == 13) (by decide) (by decide +kernel) h)
theorem tw_ln1_16 {k : Nat} (h : tw_kd k = 1) : tw_ln (k + 16) = 32 := by exact eq_of_beq (tw_kdk (f := fun k => tw_ln (k + 16) == 32) (by decide) (by decide +kernel) h)
theorem tw_kd1_17 {k : Nat} (h : tw_kd k = 1) : tw_kd (k + 17) = 7 := by exact eq_of_beq (tw_kdk (f := fun k => tw_kd (k + 17) == 7) (by decide) (by decide +kernel) h)
theorem tw_kd1_18 {k : Nat} (h : tw_kd k = 1) : tw_kd (k + 18) = 13 := by exact eq_of_beq (tw_kdk (f := fun k => tw_kd (k + 18) == 13) (by decide) (by decide +kernel) h)
theorem tw_ln1_18 {k : Nat} (h : tw_kd k = 1) : tw_ln (k + 18) = 32 := by exact eq_of_beq (tw_kdk (f := fun k => tw_ln (k + 18) == 32) (by decide) (by decide +kernel) h)
theorem tw_kd2_1 {k : Nat} (h : tw_kd k = 2) : tw_kd (k + 1) = 0 := by exact eq_of_beq (tw_kdk (f := fun k => tw_kd (k + 1) == 0) (by decide) (by decide +kernel) h)
theorem tw_kd2_2 {k : Nat} (h : tw_kd k = 2) : tw_kd (k + 2) = 13 := by exact eq_of_beq (tw_kdk (f := fun k => tw_kd (k + 2) == 13) (by decide) (by decide +kernel) h)
theorem tw_ln2_2 {k : Nat} (h : tw_kd k = 2) : tw_ln (k + 2) = 22 := by exact eq_of_beq (tw_kdk (f := fun k => tw_ln (k + 2) == 22) (by decide) (by decide +kernel) h)
theorem tw_kd2_3 {k : Nat} (h : tw_kd k = 2) : tw_kd (k + 3) = 0 := by exact eq_of_beq (tw_kdk (f := fun k => tw_kd (k + 3) == 0) (by decide) (by decide +kernel) h)
theorem tw_kd2_4 {k : Nat} (h : tw_kd k = 2) : tw_kd (k + 4) = 13 := by exact eq_of_beq (tw_kdk (f := fun k => tw_kd (k + 4) == 13) (by decide) (by decide +kernel) h)
theorem tw_ln2_4 {k : Nat} (h : tw_kd k = 2) : tw_ln (k + 4) = 22 := by exact eq_of_beq (tw_kdk (f := fun k => tw_ln (k + 4) == 22) (by decide) (by decide +kernel) h)
theorem tw_kd2_5 {k : Nat} (h : tw_kd k = 2) : tw_kd (k + 5) = 7 := by exact eq_of_beq (tw_kdk (f := fun k => tw_kd (k + 5) == 7) (by decide) (by decide +kernel) h)
theorem tw_kd2_6 {k : Nat} (h : tw_kd k = 2) : tw_kd (k + 6) = 13 := by exact eq_of_beq (tw_kdk (f := fun k => tw_kd (k + 6) == 13) (by decide) (by decide +kernel) h)
theorem tw_ln2_6 {k : Nat} (h : tw_kd k = 2) : tw_ln (k + 6) = 8 := by exact eq_of_beq (tw_kdk (f := fun k => tw_ln (k + 6) == 8) (by decide) (by decide +kernel) h)
theorem tw_kd2_7 {k : Nat} (h : tw_kd k = 2) : tw_kd (k + 7) = 7 := by exact eq_of_beq (tw_kdk (f := fun k => tw_kd (k + 7) == 7) (by decide) (by decide +kernel) h)
theorem tw_kd2_8 {k : Nat} (h : tw_kd k = 2) : tw_kd (k + 8) = 13 := by exact eq_of_beq (tw_kdk (f := fun k => tw_kd (k + 8) == 13) (by decide) (by decide +kernel) h)
theorem tw_ln2_8 {k : Nat} (h : tw_kd k = 2) : tw_ln (k + 8) = 8 := by exact eq_of_beq (tw_kdk (f := fun k => tw_ln (k + 8) == 8) (by decide) (by decide +kernel) h)
theorem tw_kd2_9 {k : Nat} (h : tw_kd k = 2) : tw_kd (k + 9) = 7 := by exact eq_of_beq (tw_kdk (f := fun k => tw_kd (k + 9) == 7) (by decide) (by decide +kernel) h)
theorem tw_kd2_10 {k : Nat} (h : tw_kd k = 2) : tw_kd (k + 10) = 13 := by exact eq_of_beq (tw_kdk (f := fun k => tw_kd (k + 10) == 13) (by decide) (by decide +kernel) h)
theorem tw_ln2_10 {k : Nat} (h : tw_kd k = 2) : tw_ln (k + 10) = 8 := by exact eq_of_beq (tw_kdk (f := fun k => tw_ln (k + 10) == 8) (by decide) (by decide +kernel) h)
theorem tw_kd2_11 {k : Nat} (h : tw_kd k = 2) : tw_kd (k + 11) = 7 := by exact eq_of_beq (tw_kdk (f := fun k => tw_kd (k + 11) == 7) (by decide) (by decide +kernel) h)
theorem tw_kd2_12 {k : Nat} (h : tw_kd k = 2) : tw_kd (k + 12) = 13 := by exact eq_of_beq (tw_kdk (f := fun k => tw_kd (k + 12) == 13) (by decide) (by decide +kernel) h)
theorem tw_ln2_12 {k : Nat} (h : tw_kd k = 2) : tw_ln (k + 12) = 8 := by exact eq_of_beq (tw_kdk (f := fun k => tw_ln (k + 12) == 8) (by decide) (by decide +kernel) h)
theorem tw_kd2_13 {k : Nat} (h : tw_kd k = 2) : tw_kd (k + 13) = 1 := by exact eq_of_beq (tw_kdk (f := fun k => tw_kd (k + 13) == 1) (by decide) (by decide +kernel) h)
theorem tw_kd2_14 {k : Nat} (h : tw_kd k = 2) : tw_kd (k + 14) = 7 := by exact eq_of_beq (tw_kdk (f := fun k => tw_kd (k + 14) == 7) (by decide) (by decide +kernel) h)
theorem tw_kd2_15 {k : Nat} (h : tw_kd k = 2) : tw_kd (k + 15) = 13 := by exact eq_of_beq (tw_kdk (f := fun k => tw_kd (k + 15) == 13) (by decide) (by decide +kernel) h)
theorem tw_ln2_15 {k : Nat} (h : tw_kd k = 2) : tw_ln (k + 15) = 4 := by exact eq_of_beq (tw_kdk (f := fun k => tw_ln (k + 15) == 4) (by decide) (by decide +kernel) h)
theorem tw_kd2_16 {k : Nat} (h : tw_kd k = 2) : tw_kd (k + 16) = 7 := by exact eq_of_beq (tw_kdk (f := fun k => tw_kd (k + 16) == 7) (by decide) (by decide +kernel) h)
theorem tw_kd2_17 {k : Nat} (h : tw_kd k = 2) : tw_kd (k + 17) = 13 := by exact eq_of_beq (tw_kdk (f := fun k => tw_kd (k + 17) == 13) (by decide) (by decide +kernel) h)
theorem tw_ln2_17 {k : Nat} (h : tw_kd k = 2) : tw_ln (k + 17) = 4 := by exact eq_of_beq (tw_kdk (f := fun k => tw_ln (k + 17) == 4) (by decide) (by decide +kernel) h)
theorem tw_kd2_18 {k : Nat} (h : tw_kd k = 2) : tw_kd (k + 18) = 7 := by exact eq_of_beq (tw_kdk (f := fun k => tw_kd (k + 18) == 7) (by decide) (by decide +kernel) h)
theorem tw_kd2_19 {k : Nat} (h : tw_kd k = 2) : tw_kd (k + 19) = 13 := by exact eq_of_beq (tw_kdk (f := fun k => tw_kd (k + 19) == 13) (by decide) (by decide +kernel) h)
theorem tw_ln2_19 {k : Nat} (h : tw_kd k = 2) : tw_ln (k + 19) = 32 := by exact eq_of_beq (tw_kdk (f := fun k => tw_ln (k + 19) == 32) (by decide) (by decide +kernel) h)
theorem tw_kd2_20 {k : Nat} (h : tw_kd k = 2) : tw_kd (k + 20) = 7 := by exact eq_of_beq (tw_kdk (f := fun k => tw_kd (k + 20) == 7) (by decide) (by decide +kernel) h)
theorem tw_kd2_21 {k : Nat} (h : tw_kd k = 2) : tw_kd (k + 21) = 13 := by exact eq_of_beq (tw_kdk (f := fun k => tw_kd (k + 21) == 13) (by decide) (by decide +kernel) h)
theorem tw_ln2_21 {k : Nat} (h : tw_kd k = 2) : tw_ln (k + 21) = 4 := by exact eq_of_beq (tw_kdk (f := fun k => tw_ln (k + 21) == 4) (by decide) (by decide +kernel) h)
theorem tw_kd2_22 {k : Nat} (h : tw_kd k = 2) : tw_kd (k + 22) = 7 := by exact eq_of_beq (tw_kdk (f := fun k => tw_kd (k + 22) == 7) (by decide) (by decide +kernel) h)
theorem tw_kd2_23 {k : Nat} (h : tw_kd k = 2) : tw_kd (k + 23) = 13 := by exact eq_of_beq (tw_kdk (f := fun k => tw_kd (k + 23) == 13) (by decide) (by decide +kernel) h)
theorem tw_ln2_23 {k : Nat} (h : tw_kd k = 2) : tw_ln (k + 23) = 32 := by exact eq_of_beq (tw_kdk (f := fun k => tw_ln (k + 23) == 32) (by decide) (by decide +kernel) h)
theorem tw_kd2_24 {k : Nat} (h : tw_kd k = 2) : tw_kd (k + 24) = 7 := by exact eq_of_beq (tw_kdk (f := fun k => tw_kd (k + 24) == 7) (by decide) (by decide +kernel) h)
theorem tw_kd2_25 {k : Nat} (h : tw_kd k = 2) : tw_kd (k + 25) = 13 := by exact eq_of_beq (tw_kdk (f := fun k => tw_kd (k + 25) == 13) (by decide) (by decide +kernel) h)
theorem tw_ln2_25 {k : Nat} (h : tw_kd k = 2) : tw_ln (k + 25) = 32 := by exact eq_of_beq (tw_kdk (f := fun k => tw_ln (k + 25) == 32) (by decide) (by decide +kernel) h)
theorem tw_kd2_26 {k : Nat} (h : tw_kd k = 2) : tw_kd (k + 26) = 7 := by exact eq_of_beq (tw_kdk (f := fun k => tw_kd (k + 26) == 7) (by decide) (by decide +kernel) h)
theorem tw_kd2_27 {k : Nat} (h : tw_kd k = 2) : tw_kd (k + 27) = 13 := by exact eq_of_beq (tw_kdk (f := fun k => tw_kd (k + 27) == 13) (by decide) (by decide +kernel) h)
theorem tw_ln2_27 {k : Nat} (h : tw_kd k = 2) : tw_ln (k + 27) = 32 := by exact eq_of_beq (tw_kdk (f := fun k => tw_ln (k + 27) == 32) (by decide) (by decide +kernel) h)
theorem tw_kd2_28 {k : Nat} (h : tw_kd k = 2) : tw_kd (k + 28) = 7 := by exact eq_of_beq (tw_kdk (f := fun k => tw_kd (k + 28) == 7) (by decide) (by decide +kernel) h)
theorem tw_kd2_29 {k : Nat} (h : tw_kd k = 2) : tw_kd (k + 29) = 13 := by exact eq_of_beq (tw_kdk (f := fun k => tw_kd (k + 29) == 13) (by decide) (by decide +kernel) h)
theorem tw_ln2_29 {k : Nat} (h : tw_kd k = 2) : tw_ln (k + 29) = 32 := by exact eq_of_beq (tw_kdk (f := fun k => tw_ln (k + 29) == 32) (by decide) (by decide +kernel) h)
theorem tw_kd2_30 {k : Nat} (h : tw_kd k = 2) : tw_kd (k + 30) = 7 := by exact eq_of_beq (tw_kdk (f := fun k => tw_kd (k + 30) == 7) (by decide) (by decide +kernel) h)
theorem tw_kd2_31 {k : Nat} (h : tw_kd k = 2) : tw_kd (k + 31) = 13 := by exact eq_of_beq (tw_kdk (f := fun k => tw_kd (k + 31) == 13) (by decide) (by decide +kernel) h)
theorem tw_ln2_31 {k : Nat} (h : tw_kd k = 2) : tw_ln (k + 31) = 32 := by exact eq_of_beq (tw_kdk (f := fun k => tw_ln (k + 31) == 32) (by decide) (by decide +kernel) h)
