theorem tw_t877 : lw_tbl[877]? = some ((Jvm.Cond.code ({ cls := "jdk/internal/util/Preconditions", name := "checkIndex", desc := "(IILjava/util/function/BiFunction;)I" } : Jvm.MethodName) prog_43_method_11_code (3 : Nat) (Option.some Jvm.ClassFile.FieldType.int))) := by decide +kernel
theorem tw_t62 : lw_tbl[62]? = some ((Jvm.Cond.initialized "jdk/internal/util/Preconditions")) := by decide +kernel
theorem tw_y_J3_checkIndex_8e157 : tw_My yJ3_checkIndex_8e157 cJ3_checkIndex_8e157 3 (some .int) 3 := ⟨List.mem_of_getElem? tw_t877, List.mem_of_getElem? tw_t62, by decide +kernel, by decide +kernel, by decide +kernel⟩
theorem tw_t876 : lw_tbl[876]? = some ((Jvm.Cond.static ({ cls := "jdk/internal/util/Preconditions", name := "checkIndex", desc := "(IILjava/util/function/BiFunction;)I" } : Jvm.MethodName))) := by decide +kernel
theorem tw_v_J3_checkIndex_8e157 : tw_Ms yJ3_checkIndex_8e157 := List.mem_of_getElem? tw_t876
theorem tw_t872 : lw_tbl[872]? = some ((Jvm.Cond.code ({ cls := "java/lang/String", name := "checkIndex", desc := "(II)V" } : Jvm.MethodName) prog_32_method_155_code (2 : Nat) (Option.none : Option Jvm.ClassFile.FieldType))) := by decide +kernel
theorem tw_t60 : lw_tbl[60]? = some ((Jvm.Cond.initialized "java/lang/String")) := by decide +kernel
theorem tw_y_J0_checkIndex_df160 : tw_My yJ0_checkIndex_df160 cJ0_checkIndex_df160 2 none 2 := ⟨List.mem_of_getElem? tw_t872, List.mem_of_getElem? tw_t60, by decide +kernel, by decide +kernel, by decide +kernel⟩
theorem tw_t871 : lw_tbl[871]? = some ((Jvm.Cond.static ({ cls := "java/lang/String", name := "checkIndex", desc := "(II)V" } : Jvm.MethodName))) := by decide +kernel
theorem tw_v_J0_checkIndex_df160 : tw_Ms yJ0_checkIndex_df160 := List.mem_of_getElem? tw_t871
theorem tw_t869 : lw_tbl[869]? = some ((Jvm.Cond.code ({ cls := "java/lang/StringLatin1", name := "charAt", desc := "([BI)C" } : Jvm.MethodName) prog_34_method_2_code (2 : Nat) (Option.some Jvm.ClassFile.FieldType.char))) := by decide +kernel
theorem tw_t61 : lw_tbl[61]? = some ((Jvm.Cond.initialized "java/lang/StringLatin1")) := by decide +kernel
theorem tw_y_J1_charAt_3b067 : tw_My yJ1_charAt_3b067 cJ1_charAt_3b067 2 (some .char) 2 := ⟨List.mem_of_getElem? tw_t869, List.mem_of_getElem? tw_t61, by decide +kernel, by decide +kernel, by decide +kernel⟩
theorem tw_t868 : lw_tbl[868]? = some ((Jvm.Cond.static ({ cls := "java/lang/StringLatin1", name := "charAt", desc := "([BI)C" } : Jvm.MethodName))) := by decide +kernel
theorem tw_v_J1_charAt_3b067 : tw_Ms yJ1_charAt_3b067 := List.mem_of_getElem? tw_t868
theorem tw_t866 : lw_tbl[866]? = some ((Jvm.Cond.code ({ cls := "java/lang/String", name := "isLatin1", desc := "()Z" } : Jvm.MethodName) prog_32_method_154_code (1 : Nat) (Option.some Jvm.ClassFile.FieldType.boolean))) := by decide +kernel
theorem tw_y_J0_isLatin1_aae02 : tw_My yJ0_isLatin1_aae02 cJ0_isLatin1_aae02 1 (some .boolean) 0 := ⟨List.mem_of_getElem? tw_t866, List.mem_of_getElem? tw_t60, by decide +kernel, by decide +kernel, by decide +kernel⟩
theorem tw_t864 : lw_tbl[864]? = some ((Jvm.Cond.instanceMethod ({ cls := "java/lang/String", name := "isLatin1", desc := "()Z" } : Jvm.MethodName))) := by decide +kernel
theorem tw_t865 : lw_tbl[865]? = some ((Jvm.Cond.selects "java/lang/String" ({ cls := "java/lang/String", name := "isLatin1", desc := "()Z" } : Jvm.MethodName) ({ cls := "java/lang/String", name := "isLatin1", desc := "()Z" } : Jvm.MethodName))) := by decide +kernel
theorem tw_v_J0_isLatin1_aae02 : tw_Mv yJ0_isLatin1_aae02 "java/lang/String" := ⟨List.mem_of_getElem? tw_t864, List.mem_of_getElem? tw_t865, rfl⟩
theorem tw_t856 : lw_tbl[856]? = some ((Jvm.Cond.code ({ cls := "java/lang/String", name := "coder", desc := "()B" } : Jvm.MethodName) prog_32_method_152_code (1 : Nat) (Option.some Jvm.ClassFile.FieldType.byte))) := by decide +kernel
theorem tw_y_J0_coder_7d493 : tw_My yJ0_coder_7d493 cJ0_coder_7d493 1 (some .byte) 0 := ⟨List.mem_of_getElem? tw_t856, List.mem_of_getElem? tw_t60, by decide +kernel, by decide +kernel, by decide +kernel⟩
theorem tw_t854 : lw_tbl[854]? = some ((Jvm.Cond.instanceMethod ({ cls := "java/lang/String", name := "coder", desc := "()B" } : Jvm.MethodName))) := by decide +kernel
theorem tw_t855 : lw_tbl[855]? = some ((Jvm.Cond.selects "java/lang/String" ({ cls := "java/lang/String", name := "coder", desc := "()B" } : Jvm.MethodName) ({ cls := "java/lang/String", name := "coder", desc := "()B" } : Jvm.MethodName))) := by decide +kernel
theorem tw_v_J0_coder_7d493 : tw_Mv yJ0_coder_7d493 "java/lang/String" := ⟨List.mem_of_getElem? tw_t854, List.mem_of_getElem? tw_t855, rfl⟩
theorem tw_t852 : lw_tbl[852]? = some ((Jvm.Cond.code ({ cls := "java/lang/String", name := "length", desc := "()I" } : Jvm.MethodName) prog_32_method_54_code (1 : Nat) (Option.some Jvm.ClassFile.FieldType.int))) := by decide +kernel
theorem tw_y_J0_length_8abf5 : tw_My yJ0_length_8abf5 cJ0_length_8abf5 1 (some .int) 0 := ⟨List.mem_of_getElem? tw_t852, List.mem_of_getElem? tw_t60, by decide +kernel, by decide +kernel, by decide +kernel⟩
theorem tw_t850 : lw_tbl[850]? = some ((Jvm.Cond.instanceMethod ({ cls := "java/lang/String", name := "length", desc := "()I" } : Jvm.MethodName))) := by decide +kernel
theorem tw_t851 : lw_tbl[851]? = some ((Jvm.Cond.selects "java/lang/String" ({ cls := "java/lang/String", name := "length", desc := "()I" } : Jvm.MethodName) ({ cls := "java/lang/String", name := "length", desc := "()I" } : Jvm.MethodName))) := by decide +kernel
theorem tw_v_J0_length_8abf5 : tw_Mv yJ0_length_8abf5 "java/lang/String" := ⟨List.mem_of_getElem? tw_t850, List.mem_of_getElem? tw_t851, rfl⟩
theorem tw_t862 : lw_tbl[862]? = some ((Jvm.Cond.code ({ cls := "java/lang/String", name := "charAt", desc := "(I)C" } : Jvm.MethodName) prog_32_method_56_code (2 : Nat) (Option.some Jvm.ClassFile.FieldType.char))) := by decide +kernel
theorem tw_y_J0_charAt_5068e : tw_My yJ0_charAt_5068e cJ0_charAt_5068e 2 (some .char) 1 := ⟨List.mem_of_getElem? tw_t862, List.mem_of_getElem? tw_t60, by decide +kernel, by decide +kernel, by decide +kernel⟩
theorem tw_t860 : lw_tbl[860]? = some ((Jvm.Cond.instanceMethod ({ cls := "java/lang/String", name := "charAt", desc := "(I)C" } : Jvm.MethodName))) := by decide +kernel
theorem tw_t861 : lw_tbl[861]? = some ((Jvm.Cond.selects "java/lang/String" ({ cls := "java/lang/String", name := "charAt", desc := "(I)C" } : Jvm.MethodName) ({ cls := "java/lang/String", name := "charAt", desc := "(I)C" } : Jvm.MethodName))) := by decide +kernel
theorem tw_v_J0_charAt_5068e : tw_Mv yJ0_charAt_5068e "java/lang/String" := ⟨List.mem_of_getElem? tw_t860, List.mem_of_getElem? tw_t861, rfl⟩
theorem tw_t1487 : lw_tbl[1487]? = some ((Jvm.Cond.fieldLink "java/lang/String" (9 : Nat) "java/lang/String" "value" "[B")) := by decide +kernel
theorem tw_t1488 : lw_tbl[1488]? = some ((Jvm.Cond.fieldLink "java/lang/String" (15 : Nat) "java/lang/String" "coder" "B")) := by decide +kernel
theorem tw_t857 : lw_tbl[857]? = some ((Jvm.Cond.fieldLink "java/lang/String" (38 : Nat) "java/lang/String" "COMPACT_STRINGS" "Z")) := by decide +kernel
theorem tw_t873 : lw_tbl[873]? = some ((Jvm.Cond.fieldLink "java/lang/String" (1053 : Nat) "jdk/internal/util/Preconditions" "SIOOBE_FORMATTER" "Ljava/util/function/BiFunction;")) := by decide +kernel
theorem tw_t853 : lw_tbl[853]? = some ((Jvm.Cond.methodLink "java/lang/String" (335 : Nat) ({ cls := "java/lang/String", name := "coder", desc := "()B" } : Jvm.MethodName))) := by decide +kernel
theorem tw_t863 : lw_tbl[863]? = some ((Jvm.Cond.methodLink "java/lang/String" (492 : Nat) ({ cls := "java/lang/String", name := "isLatin1", desc := "()Z" } : Jvm.MethodName))) := by decide +kernel
theorem tw_t867 : lw_tbl[867]? = some ((Jvm.Cond.methodLink "java/lang/String" (495 : Nat) ({ cls := "java/lang/StringLatin1", name := "charAt", desc := "([BI)C" } : Jvm.MethodName))) := by decide +kernel
theorem tw_t870 : lw_tbl[870]? = some ((Jvm.Cond.methodLink "java/lang/StringLatin1" (9 : Nat) ({ cls := "java/lang/String", name := "checkIndex", desc := "(II)V" } : Jvm.MethodName))) := by decide +kernel
theorem tw_t875 : lw_tbl[875]? = some ((Jvm.Cond.methodLink "java/lang/String" (1059 : Nat) ({ cls := "jdk/internal/util/Preconditions", name := "checkIndex", desc := "(IILjava/util/function/BiFunction;)I" } : Jvm.MethodName))) := by decide +kernel
section TWS
variable {ρ : Type} {z : tw_Z} {res : ρ} {cc : ByteArray} {own : String} {nL pc : Nat} {E : Option ρ} {σ : tw_Sg} {L : List (Nat × Value)} {st st0 : List Value} {w : Nat} {x : Int32}
theorem r_sval (X : tw_X z cc "java/lang/String" nL) (d : decode cc pc = .ok (.getfield 9, 3)) (hw : w < 33) (kk : tw_Rf z res E σ (pc + 3) L (.ref (tw_zS z (100 + w)) :: st)) : tw_Rf z res E σ pc L (.ref (tw_zS z w) :: st) :=
  fun hE H locs ls hP hS hl => vk_getf X.1 X.2.1 (X.2.2.2.2.2.1.2.2.2.1.1 w hw).2.2.1 hS X.ow (X.ws _ tw_t1487 rfl) (fun _ h => h) d (kk hE H locs ls hP hS hl)
theorem r_scod (X : tw_X z cc "java/lang/String" nL) (d : decode cc pc = .ok (.getfield 15, 3)) (hw : w < 33) (kk : tw_Rf z res E σ (pc + 3) L (.int 0 :: st)) : tw_Rf z res E σ pc L (.ref (tw_zS z w) :: st) :=
  fun hE H locs ls hP hS hl => vk_getf X.1 X.2.1 (X.2.2.2.2.2.1.2.2.2.1.1 w hw).2.1 hS X.ow (X.ws _ tw_t1488 rfl) (fun _ h => h) d (kk hE H locs ls hP hS hl)
theorem r_scom (X : tw_X z cc "java/lang/String" nL) (d : decode cc pc = .ok (.getstatic 38, 3)) (kk : tw_Rf z res E σ (pc + 3) L (.int 1 :: st)) : tw_Rf z res E σ pc L st :=
  fun hE H locs ls hP hS hl => va_gets X.1 X.2.1 X.2.2.2.2.2.1.2.2.2.2.2.2.2.1 hS X.ow (X.ws _ tw_t857 rfl) (fun _ h => h) d (kk hE H locs ls hP hS hl)
theorem r_ssio (X : tw_X z cc "java/lang/String" nL) (d : decode cc pc = .ok (.getstatic 1053, 3)) (kk : ∀ v : Value, (v = .null ∨ ∃ t, v = .ref t) → tw_Rf z res E σ (pc + 3) L (v :: st)) : tw_Rf z res E σ pc L st := by
  intro hE H locs ls hP hS hl
  rcases X.2.2.2.2.2.1.2.2.2.2.2.2.2.2.1 with h | ⟨t, h⟩
  · exact va_gets X.1 X.2.1 h hS X.ow (X.ws _ tw_t873 rfl) (fun _ h => h) d (kk _ (Or.inl rfl) hE H locs ls hP hS hl)
  · exact va_gets X.1 X.2.1 h hS X.ow (X.ws _ tw_t873 rfl) (fun _ h => h) d (kk _ (Or.inr ⟨t, rfl⟩) hE H locs ls hP hS hl)
theorem r_slen (X : tw_X z cc own nL) (d : decode cc pc = .ok (.arraylength, 1)) (hw : w < 33) (kk : tw_Rf z res E σ (pc + 1) L (.int (Int32.ofNat (tw_len.getD w 0)) :: st)) : tw_Rf z res E σ pc L (.ref (tw_zS z (100 + w)) :: st) :=
  fun hE H locs ls hP hS hl => va_tlen X.1 X.2.1 (X.2.2.2.2.2.1.2.2.2.1.1 w hw).2.2.2 hS rfl d (kk hE H locs ls hP hS hl)
theorem r_sbld (X : tw_X z cc own nL) (d : decode cc pc = .ok (.baload, 1)) (hw : w < 33) (hx : tw_ok x (tw_len.getD w 0) = true) (kk : tw_Rf z res E σ (pc + 1) L (.int ((tw_byt.getD w []).getD x.toNatClampNeg 0) :: st)) : tw_Rf z res E σ pc L (.int x :: .ref (tw_zS z (100 + w)) :: st) :=
  fun hE H locs ls hP hS hl => va_tb X.1 X.2.1 (X.2.2.2.2.2.1.2.2.2.1.1 w hw).2.2.2 hS (tw_ok_in hx) rfl d (kk hE H locs ls hP hS hl)
theorem r_i2c (X : tw_X z cc own nL) (d : decode cc pc = .ok (.i2c, 1)) {v : Int32} (hv : (x.toUInt32 % 65536).toInt32 = v) (kk : tw_Rf z res E σ (pc + 1) L (.int v :: st)) : tw_Rf z res E σ pc L (.int x :: st) :=
  fun hE H locs ls hP hS hl => lv_i2c X.1 X.2.1 d hv (kk hE H locs ls hP hS hl)
theorem r_popv {v : Value} (X : tw_X z cc own nL) (d : decode cc pc = .ok (.pop, 1)) (hv : v.category = 1) (kk : tw_Rf z res E σ (pc + 1) L st) : tw_Rf z res E σ pc L (v :: st) := r_pop X d hv kk
variable {out : ρ → Option Value × tw_Sg} {r : ρ}
theorem r_nret {ty : FieldType} (X : tw_X z cc own nL) (d : decode cc pc = .ok (.ireturn, 1)) (hret : (tw_zmeth z).sig.returnType = some ty) (hn : narrow ty (.int x) = .int x) (hQ : tw_Ro z out res) (ho : out r = (some (.int x), σ)) : tw_Rf z res (some r) σ pc L [.int x] := by
  intro hE H locs ls hP hS hl
  cases hE
  refine hQ H locs _ (W.zret X.1 X.2.1 hret hn (fun t ht hW => ?_) hS.2.2 d X.2.2.2.2.1)
  rw [ho]
  exact ⟨⟨rfl, by rw [ht]; exact hP⟩, hS.F ht⟩
variable {ix mL n : Nat} {y : MethodName} {cy : ByteArray} {ret : Option FieldType} {rm : Room} {As : List Value} {rv : Option Value} {σ' : tw_Sg}
theorem r_callT (X : tw_X z cc own nL) (d : decode cc pc = .ok (.invokevirtual ix, 3)) (hw : w < 33) (hM : tw_Met (tw_zl z) (tw_zB z) (tw_zD z) (tw_zC z) (tw_zS z) y cy mL ret rm (.ref (tw_zS z w) :: As) σ rv σ') (hy : tw_My y cy mL ret n) (hv : tw_Mv y "java/lang/String") (i : Nat) (hi : lw_tbl[i]? = some (.methodLink own ix y)) (hn : As.length = n) (hR : tw_Rm (tw_zR z) rm mL 0 0) (hcs : tw_zcells z ≤ (tw_zR z).cells ∧ tw_zslots z ≤ (tw_zR z).slots) (hst : (st.map fun v => v.category).sum ≤ 8) (hs0 : st0 = As.reverse ++ .ref (tw_zS z w) :: st) (kk : tw_Rf z res E σ' (pc + 3) L (rv.toList ++ st)) : tw_Rf z res E σ pc L st0 := by
  subst hs0
  exact r_run (fun H locs ls hP hS hl => va_runV (As := As) (rest := st) (tw_fix X) hM ⟨tw_CB X hy i hi hR, tw_wd X hv.1 rfl, tw_wd X hv.2.1 rfl⟩ ⟨tw_blind, vk_recv X.2.2.2.2.2.1.2.2.2.1 hw hS, fun U hU hW => ⟨rfl, by rw [hU]; exact hP, X.2.2.2.2.2.1.call hS hU hW⟩⟩ rfl hn (hl.1.trans X.2.2.2.2.2.2) rfl (lv_room hst) d hcs) kk
end TWS
theorem tw_chr : ∀ w, w < 33 → ∀ i, i < tw_len.getD w 0 → ((((tw_byt.getD w []).getD i 0) &&& 255).toUInt32 % 65536).toInt32 = (tw_byt.getD w []).getD i 0 ∧ narrow .char (.int ((tw_byt.getD w []).getD i 0)) = .int ((tw_byt.getD w []).getD i 0) := by decide +kernel
theorem tw_lenlt : ∀ w, w < 33 → tw_len.getD w 0 < 2 ^ 31 := by decide +kernel
theorem tw_okI {x : Int32} {n : Nat} (hn : n < 2 ^ 31) (h : tw_ok x n = true) : ¬ x < 0 ∧ x < Int32.ofNat n := by
  obtain ⟨j, hj, rfl⟩ := vp_in_of (tw_ok_in h) hn
  exact ⟨nI_pos (by omega), nI_lt hj (by omega)⟩
set_option maxRecDepth 100000 in
set_option maxHeartbeats 4000000 in
theorem tw_m_pciN {l : Launch} {B : Nat} {D : tw_G} {C : Nat → ClassId} {S : Nat → Nat} {σ : tw_Sg} {i n : Int32} {t : Nat} (h0 : ¬ i < 0) (h1 : i < n) : tw_Met l B D C S yJ3_checkIndex_8e157 cJ3_checkIndex_8e157 3 (some .int) ({ frames := 0, cells := 0, slots := 0, locals := 0 } : Room) [.int i, .int n, .null] σ (some (.int i)) σ := by
  refine tw_metOfP (ρ := Int32) (if i < 0 then none else if i < n then some i else none) i (by rw [if_neg h0, if_pos h1]) (fun r => (some (.int r), σ)) (by decide +kernel) (Nat.le_of_ble_eq_true rfl) ⟨rfl, rfl⟩ ?_
  intro z el eB eD eC eS hfr hlo hcs X hret hQ
  subst el eB eD eC eS
  have X : tw_X z cJ3_checkIndex_8e157 "jdk/internal/util/Preconditions" 3 := X
  show tw_Rf z _ _ σ 0 [(0, .int i), (1, .int n), (2, .null)] []
  refine r_iload_n X dJ3_checkIndex_8e157_0 rfl 0 rfl ?_
  refine r_if_lt X dJ3_checkIndex_8e157_1 (tgt := 9) (by decide) (fun hE => nomatch hE) ?_
  refine r_iload_n X dJ3_checkIndex_8e157_4 rfl 0 rfl ?_
  refine r_iload_n X dJ3_checkIndex_8e157_5 rfl 1 rfl ?_
  refine r_icmp_lt X dJ3_checkIndex_8e157_6 (tgt := 16) (by decide) ?_ (fun hE => nomatch hE)
  refine r_iload_n X dJ3_checkIndex_8e157_16 rfl 0 rfl ?_
  exact r_iret X dJ3_checkIndex_8e157_17 hret hQ rfl
set_option maxRecDepth 100000 in
set_option maxHeartbeats 4000000 in
theorem tw_m_pciR {l : Launch} {B : Nat} {D : tw_G} {C : Nat → ClassId} {S : Nat → Nat} {σ : tw_Sg} {i n : Int32} {t : Nat} (h0 : ¬ i < 0) (h1 : i < n) : tw_Met l B D C S yJ3_checkIndex_8e157 cJ3_checkIndex_8e157 3 (some .int) ({ frames := 0, cells := 0, slots := 0, locals := 0 } : Room) [.int i, .int n, (.ref t)] σ (some (.int i)) σ := by
  refine tw_metOfP (ρ := Int32) (if i < 0 then none else if i < n then some i else none) i (by rw [if_neg h0, if_pos h1]) (fun r => (some (.int r), σ)) (by decide +kernel) (Nat.le_of_ble_eq_true rfl) ⟨rfl, rfl⟩ ?_
  intro z el eB eD eC eS hfr hlo hcs X hret hQ
  subst el eB eD eC eS
  have X : tw_X z cJ3_checkIndex_8e157 "jdk/internal/util/Preconditions" 3 := X
  show tw_Rf z _ _ σ 0 [(0, .int i), (1, .int n), (2, (.ref t))] []
  refine r_iload_n X dJ3_checkIndex_8e157_0 rfl 0 rfl ?_
  refine r_if_lt X dJ3_checkIndex_8e157_1 (tgt := 9) (by decide) (fun hE => nomatch hE) ?_
  refine r_iload_n X dJ3_checkIndex_8e157_4 rfl 0 rfl ?_
  refine r_iload_n X dJ3_checkIndex_8e157_5 rfl 1 rfl ?_
  refine r_icmp_lt X dJ3_checkIndex_8e157_6 (tgt := 16) (by decide) ?_ (fun hE => nomatch hE)
  refine r_iload_n X dJ3_checkIndex_8e157_16 rfl 0 rfl ?_
  exact r_iret X dJ3_checkIndex_8e157_17 hret hQ rfl
set_option maxRecDepth 100000 in
set_option maxHeartbeats 4000000 in
theorem tw_m_J0_checkIndex_df160 {l : Launch} {B : Nat} {D : tw_G} {C : Nat → ClassId} {S : Nat → Nat} {σ : tw_Sg} {i n : Int32} (h0 : ¬ i < 0) (h1 : i < n) : tw_Met l B D C S yJ0_checkIndex_df160 cJ0_checkIndex_df160 2 none ({ frames := 1, cells := 0, slots := 0, locals := 22 } : Room) [.int i, .int n] σ none σ := by
  refine tw_metOfP (ρ := Unit) (some ()) () rfl (fun r => (none, σ)) (by decide +kernel) (Nat.le_of_ble_eq_true rfl) ⟨rfl, rfl⟩ ?_
  intro z el eB eD eC eS hfr hlo hcs X hret hQ
  subst el eB eD eC eS
  have X : tw_X z cJ0_checkIndex_df160 "java/lang/String" 2 := X
  show tw_Rf z _ _ σ 0 [(0, .int i), (1, .int n)] []
  refine r_iload_n X dJ0_checkIndex_df160_0 rfl 0 rfl ?_
  refine r_iload_n X dJ0_checkIndex_df160_1 rfl 1 rfl ?_
  refine r_ssio X dJ0_checkIndex_df160_2 (fun v hv => ?_)
  rcases hv with rfl | ⟨t, rfl⟩
  · refine r_callS (st := []) (As := [.int i, .int n, .null]) X dJ0_checkIndex_df160_5 (tw_m_pciN (t := 0) h0 h1) tw_y_J3_checkIndex_8e157 tw_v_J3_checkIndex_8e157 _ tw_t875 rfl ⟨rfl, rfl, (tw_le hfr rfl), (tw_le hlo rfl)⟩ hcs (Nat.zero_le 8) rfl ?_
    refine r_pop X dJ0_checkIndex_df160_8 rfl ?_
    exact r_vret X dJ0_checkIndex_df160_9 hret hQ rfl
  · refine r_callS (st := []) (As := [.int i, .int n, .ref t]) X dJ0_checkIndex_df160_5 (tw_m_pciR h0 h1) tw_y_J3_checkIndex_8e157 tw_v_J3_checkIndex_8e157 _ tw_t875 rfl ⟨rfl, rfl, (tw_le hfr rfl), (tw_le hlo rfl)⟩ hcs (Nat.zero_le 8) rfl ?_
    refine r_pop X dJ0_checkIndex_df160_8 rfl ?_
    exact r_vret X dJ0_checkIndex_df160_9 hret hQ rfl
set_option maxRecDepth 100000 in
set_option maxHeartbeats 4000000 in
theorem tw_m_J1_charAt_3b067 {l : Launch} {B : Nat} {D : tw_G} {C : Nat → ClassId} {S : Nat → Nat} {σ : tw_Sg} {w : Nat} {x : Int32} (hw : w < 33) (hx : tw_ok x (tw_len.getD w 0) = true) : tw_Met l B D C S yJ1_charAt_3b067 cJ1_charAt_3b067 2 (some .char) ({ frames := 2, cells := 0, slots := 0, locals := 43 } : Room) [.ref (S (100 + w)), .int x] σ (some (.int ((tw_byt.getD w []).getD x.toNatClampNeg 0))) σ := by
  refine tw_metOfP (ρ := Int32) (some ((tw_byt.getD w []).getD x.toNatClampNeg 0)) ((tw_byt.getD w []).getD x.toNatClampNeg 0) rfl (fun r => (some (.int r), σ)) (by decide +kernel) (Nat.le_of_ble_eq_true rfl) ⟨rfl, rfl⟩ ?_
  intro z el eB eD eC eS hfr hlo hcs X hret hQ
  subst el eB eD eC eS
  have X : tw_X z cJ1_charAt_3b067 "java/lang/StringLatin1" 2 := X
  show tw_Rf z _ _ σ 0 [(0, .ref (tw_zS z (100 + w))), (1, .int x)] []
  obtain ⟨h0, h1⟩ := tw_okI (tw_lenlt w hw) hx
  obtain ⟨c1, c2⟩ := tw_chr w hw x.toNatClampNeg (tw_ok_lt hx)
  refine r_iload_n X dJ1_charAt_3b067_0 rfl 1 rfl ?_
  refine r_aload_n X dJ1_charAt_3b067_1 rfl 0 rfl ?_
  refine r_slen X dJ1_charAt_3b067_2 hw ?_
  refine r_callS (st := []) (As := [.int x, .int (Int32.ofNat (tw_len.getD w 0))]) X dJ1_charAt_3b067_3 (tw_m_J0_checkIndex_df160 h0 h1) tw_y_J0_checkIndex_df160 tw_v_J0_checkIndex_df160 _ tw_t870 rfl ⟨rfl, rfl, (tw_le hfr rfl), (tw_le hlo rfl)⟩ hcs (Nat.zero_le 8) rfl ?_
  refine r_aload_n X dJ1_charAt_3b067_6 rfl 0 rfl ?_
  refine r_iload_n X dJ1_charAt_3b067_7 rfl 1 rfl ?_
  refine r_sbld X dJ1_charAt_3b067_8 hw hx ?_
  refine r_sipush X dJ1_charAt_3b067_9 (v := 255) (by decide) ?_
  refine r_iand X dJ1_charAt_3b067_12 ?_
  refine r_i2c X dJ1_charAt_3b067_13 c1 ?_
  exact r_nret X dJ1_charAt_3b067_14 hret c2 hQ rfl
set_option maxRecDepth 100000 in
set_option maxHeartbeats 4000000 in
theorem tw_m_J0_coder_7d493 {l : Launch} {B : Nat} {D : tw_G} {C : Nat → ClassId} {S : Nat → Nat} {σ : tw_Sg} {w : Nat} (hw : w < 33) : tw_Met l B D C S yJ0_coder_7d493 cJ0_coder_7d493 1 (some .byte) ({ frames := 0, cells := 0, slots := 0, locals := 0 } : Room) [.ref (S w)] σ (some (.int 0)) σ := by
  refine tw_metOfP (ρ := Int32) (some (0 : Int32)) (0 : Int32) rfl (fun r => (some (.int r), σ)) (by decide +kernel) (Nat.le_of_ble_eq_true rfl) ⟨rfl, rfl⟩ ?_
  intro z el eB eD eC eS hfr hlo hcs X hret hQ
  subst el eB eD eC eS
  have X : tw_X z cJ0_coder_7d493 "java/lang/String" 1 := X
  show tw_Rf z _ _ σ 0 [(0, .ref (tw_zS z w))] []
  refine r_scom X dJ0_coder_7d493_0 ?_
  refine tw_Rf.eq (E' := if (1 : Int32) = 0 then none else some 0) (by decide) ?_
  refine r_if_eq X dJ0_coder_7d493_3 (tgt := 13) (by decide) (fun hE => nomatch hE) ?_
  refine r_aload_n X dJ0_coder_7d493_6 rfl 0 rfl ?_
  refine r_scod X dJ0_coder_7d493_7 hw ?_
  refine r_goto X dJ0_coder_7d493_10 (tgt := 14) (by decide) ?_
  exact r_nret X dJ0_coder_7d493_14 hret rfl hQ rfl
set_option maxRecDepth 100000 in
set_option maxHeartbeats 4000000 in
theorem tw_m_J0_isLatin1_aae02 {l : Launch} {B : Nat} {D : tw_G} {C : Nat → ClassId} {S : Nat → Nat} {σ : tw_Sg} {w : Nat} (hw : w < 33) : tw_Met l B D C S yJ0_isLatin1_aae02 cJ0_isLatin1_aae02 1 (some .boolean) ({ frames := 0, cells := 0, slots := 0, locals := 0 } : Room) [.ref (S w)] σ (some (.int 1)) σ := by
  refine tw_metOfP (ρ := Int32) (some (1 : Int32)) (1 : Int32) rfl (fun r => (some (.int r), σ)) (by decide +kernel) (Nat.le_of_ble_eq_true rfl) ⟨rfl, rfl⟩ ?_
  intro z el eB eD eC eS hfr hlo hcs X hret hQ
  subst el eB eD eC eS
  have X : tw_X z cJ0_isLatin1_aae02 "java/lang/String" 1 := X
  show tw_Rf z _ _ σ 0 [(0, .ref (tw_zS z w))] []
  refine r_scom X dJ0_isLatin1_aae02_0 ?_
  refine tw_Rf.eq (E' := if (1 : Int32) = 0 then none else if ¬ (0 : Int32) = 0 then none else some 1) (by decide) ?_
  refine r_if_eq X dJ0_isLatin1_aae02_3 (tgt := 17) (by decide) (fun hE => nomatch hE) ?_
  refine r_aload_n X dJ0_isLatin1_aae02_6 rfl 0 rfl ?_
  refine r_scod X dJ0_isLatin1_aae02_7 hw ?_
  refine r_if_ne X dJ0_isLatin1_aae02_10 (tgt := 17) (by decide) (fun hE => nomatch hE) ?_
  refine r_iconst X dJ0_isLatin1_aae02_13 (v := 1) (by decide) ?_
  refine r_goto X dJ0_isLatin1_aae02_14 (tgt := 18) (by decide) ?_
  exact r_nret X dJ0_isLatin1_aae02_18 hret rfl hQ rfl
set_option maxRecDepth 100000 in
set_option maxHeartbeats 4000000 in
theorem tw_m_J0_length_8abf5 {l : Launch} {B : Nat} {D : tw_G} {C : Nat → ClassId} {S : Nat → Nat} {σ : tw_Sg} {w : Nat} (hw : w < 33) : tw_Met l B D C S yJ0_length_8abf5 cJ0_length_8abf5 1 (some .int) ({ frames := 1, cells := 0, slots := 0, locals := 20 } : Room) [.ref (S w)] σ (some (.int (Int32.ofNat (tw_len.getD w 0)))) σ := by
  refine tw_metOfP (ρ := Int32) (some (Int32.ofNat (tw_len.getD w 0))) (Int32.ofNat (tw_len.getD w 0)) rfl (fun r => (some (.int r), σ)) (by decide +kernel) (Nat.le_of_ble_eq_true rfl) ⟨rfl, rfl⟩ ?_
  intro z el eB eD eC eS hfr hlo hcs X hret hQ
  subst el eB eD eC eS
  have X : tw_X z cJ0_length_8abf5 "java/lang/String" 1 := X
  show tw_Rf z _ _ σ 0 [(0, .ref (tw_zS z w))] []
  refine r_aload_n X dJ0_length_8abf5_0 rfl 0 rfl ?_
  refine r_sval X dJ0_length_8abf5_1 hw ?_
  refine r_slen X dJ0_length_8abf5_4 hw ?_
  refine r_aload_n X dJ0_length_8abf5_5 rfl 0 rfl ?_
  refine r_callT (st := [.int (Int32.ofNat (tw_len.getD w 0))]) (As := []) X dJ0_length_8abf5_6 hw (tw_m_J0_coder_7d493 hw) tw_y_J0_coder_7d493 tw_v_J0_coder_7d493 _ tw_t853 rfl ⟨rfl, rfl, (tw_le hfr rfl), (tw_le hlo rfl)⟩ hcs (Nat.le_of_ble_eq_true rfl) rfl ?_
  refine r_ishr X dJ0_length_8abf5_9 ?_
  refine r_iret X dJ0_length_8abf5_10 hret hQ ?_
  show (_, σ) = (_, σ)
  rw [sb_shr0]
set_option maxRecDepth 100000 in
set_option maxHeartbeats 4000000 in
theorem tw_m_J0_charAt_5068e {l : Launch} {B : Nat} {D : tw_G} {C : Nat → ClassId} {S : Nat → Nat} {σ : tw_Sg} {w : Nat} {x : Int32} (hw : w < 33) (hx : tw_ok x (tw_len.getD w 0) = true) : tw_Met l B D C S yJ0_charAt_5068e cJ0_charAt_5068e 2 (some .char) ({ frames := 3, cells := 0, slots := 0, locals := 64 } : Room) [.ref (S w), .int x] σ (some (.int ((tw_byt.getD w []).getD x.toNatClampNeg 0))) σ := by
  refine tw_metOfP (ρ := Int32) (some ((tw_byt.getD w []).getD x.toNatClampNeg 0)) ((tw_byt.getD w []).getD x.toNatClampNeg 0) rfl (fun r => (some (.int r), σ)) (by decide +kernel) (Nat.le_of_ble_eq_true rfl) ⟨rfl, rfl⟩ ?_
  intro z el eB eD eC eS hfr hlo hcs X hret hQ
  subst el eB eD eC eS
  have X : tw_X z cJ0_charAt_5068e "java/lang/String" 2 := X
  show tw_Rf z _ _ σ 0 [(0, .ref (tw_zS z w)), (1, .int x)] []
  obtain ⟨c1, c2⟩ := tw_chr w hw x.toNatClampNeg (tw_ok_lt hx)
  refine r_aload_n X dJ0_charAt_5068e_0 rfl 0 rfl ?_
  refine r_callT (st := []) (As := []) X dJ0_charAt_5068e_1 hw (tw_m_J0_isLatin1_aae02 hw) tw_y_J0_isLatin1_aae02 tw_v_J0_isLatin1_aae02 _ tw_t863 rfl ⟨rfl, rfl, (tw_le hfr rfl), (tw_le hlo rfl)⟩ hcs (Nat.zero_le 8) rfl ?_
  refine tw_Rf.eq (E' := if (1 : Int32) = 0 then none else some _) (by rw [if_neg (by decide)]) ?_
  refine r_if_eq X dJ0_charAt_5068e_4 (tgt := 16) (by decide) (fun hE => nomatch hE) ?_
  refine r_aload_n X dJ0_charAt_5068e_7 rfl 0 rfl ?_
  refine r_sval X dJ0_charAt_5068e_8 hw ?_
  refine r_iload_n X dJ0_charAt_5068e_11 rfl 1 rfl ?_
  refine r_callS (st := []) (As := [.ref (tw_zS z (100 + w)), .int x]) X dJ0_charAt_5068e_12 (tw_m_J1_charAt_3b067 hw hx) tw_y_J1_charAt_3b067 tw_v_J1_charAt_3b067 _ tw_t867 rfl ⟨rfl, rfl, (tw_le hfr rfl), (tw_le hlo rfl)⟩ hcs (Nat.zero_le 8) rfl ?_
  exact r_nret X dJ0_charAt_5068e_15 hret c2 hQ rfl
theorem tw_strlen {ρ : Type} {z : tw_Z} {res : ρ} {cc : ByteArray} {own : String} {nL pc : Nat} {E : Option ρ} {σ : tw_Sg} {L : List (Nat × Value)} {st : List Value} {ix : Nat} {w : Nat} (X : tw_X z cc own nL) (d : decode cc pc = .ok (.invokevirtual ix, 3)) (i : Nat) (hi : lw_tbl[i]? = some (.methodLink own ix ({ cls := "java/lang/String", name := "length", desc := "()I" } : Jvm.MethodName))) (hw : w < 33) (h1 : 6 ≤ (tw_zR z).frames) (h2 : 120 ≤ (tw_zR z).locals) (hcs : tw_zcells z ≤ (tw_zR z).cells ∧ tw_zslots z ≤ (tw_zR z).slots) (hst : (st.map fun v => v.category).sum ≤ 8) (kk : tw_Rf z res E σ (pc + 3) L (.int (Int32.ofNat (tw_len.getD w 0)) :: st)) : tw_Rf z res E σ pc L (.ref (tw_zS z w) :: st) := r_callT (As := []) X d hw (tw_m_J0_length_8abf5 hw) tw_y_J0_length_8abf5 tw_v_J0_length_8abf5 i hi rfl ⟨rfl, rfl, Nat.le_trans (by decide) h1, Nat.le_trans (by decide) h2⟩ hcs hst rfl kk
theorem tw_strchar {ρ : Type} {z : tw_Z} {res : ρ} {cc : ByteArray} {own : String} {nL pc : Nat} {E : Option ρ} {σ : tw_Sg} {L : List (Nat × Value)} {st : List Value} {ix : Nat} {w : Nat} {x : Int32} (X : tw_X z cc own nL) (d : decode cc pc = .ok (.invokevirtual ix, 3)) (i : Nat) (hi : lw_tbl[i]? = some (.methodLink own ix ({ cls := "java/lang/String", name := "charAt", desc := "(I)C" } : Jvm.MethodName))) (hw : w < 33) (h1 : 6 ≤ (tw_zR z).frames) (h2 : 120 ≤ (tw_zR z).locals) (hcs : tw_zcells z ≤ (tw_zR z).cells ∧ tw_zslots z ≤ (tw_zR z).slots) (hst : (st.map fun v => v.category).sum ≤ 8) (kk : tw_Rf z res E σ (pc + 3) L (.int ((tw_byt.getD w []).getD x.toNatClampNeg 0) :: st)) : tw_Rf z res (tw_ck (tw_ok x (tw_len.getD w 0)) E) σ pc L (.int x :: .ref (tw_zS z w) :: st) := r_ck (fun hx => r_callT (As := [.int x]) X d hw (tw_m_J0_charAt_5068e hw hx) tw_y_J0_charAt_5068e tw_v_J0_charAt_5068e i hi rfl ⟨rfl, rfl, Nat.le_trans (by decide) h1, Nat.le_trans (by decide) h2⟩ hcs hst rfl kk)
