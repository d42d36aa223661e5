theorem dw_w1275 : lw_tbl[1275]? = some ((Jvm.Cond.instanceMethod ({ cls := "java/lang/StringBuilder", name := "<init>", desc := "()V" } : Jvm.MethodName))) := by decide +kernel
theorem dw_w1276 : lw_tbl[1276]? = some ((Jvm.Cond.code ({ cls := "java/lang/StringBuilder", name := "<init>", desc := "()V" } : Jvm.MethodName) prog_33_method_1_code (1 : Nat) (Option.none : Option Jvm.ClassFile.FieldType))) := by decide +kernel
theorem dw_w1277 : lw_tbl[1277]? = some ((Jvm.Cond.methodLink "java/lang/StringBuilder" (1 : Nat) ({ cls := "java/lang/AbstractStringBuilder", name := "<init>", desc := "(I)V" } : Jvm.MethodName))) := by decide +kernel
theorem dw_w1278 : lw_tbl[1278]? = some ((Jvm.Cond.instanceMethod ({ cls := "java/lang/AbstractStringBuilder", name := "<init>", desc := "(I)V" } : Jvm.MethodName))) := by decide +kernel
theorem dw_w1279 : lw_tbl[1279]? = some ((Jvm.Cond.code ({ cls := "java/lang/AbstractStringBuilder", name := "<init>", desc := "(I)V" } : Jvm.MethodName) prog_20_method_2_code (2 : Nat) (Option.none : Option Jvm.ClassFile.FieldType))) := by decide +kernel
theorem dw_w1280 : lw_tbl[1280]? = some ((Jvm.Cond.methodLink "java/lang/AbstractStringBuilder" (3 : Nat) ({ cls := "java/lang/Object", name := "<init>", desc := "()V" } : Jvm.MethodName))) := by decide +kernel
theorem dw_w1304 : lw_tbl[1304]? = some ((Jvm.Cond.instanceMethod ({ cls := "java/lang/StringBuilder", name := "append", desc := "(Ljava/lang/String;)Ljava/lang/StringBuilder;" } : Jvm.MethodName))) := by decide +kernel
theorem dw_w1305 : lw_tbl[1305]? = some ((Jvm.Cond.selects "java/lang/StringBuilder" ({ cls := "java/lang/StringBuilder", name := "append", desc := "(Ljava/lang/String;)Ljava/lang/StringBuilder;" } : Jvm.MethodName) ({ cls := "java/lang/StringBuilder", name := "append", desc := "(Ljava/lang/String;)Ljava/lang/StringBuilder;" } : Jvm.MethodName))) := by decide +kernel
theorem dw_w1306 : lw_tbl[1306]? = some ((Jvm.Cond.code ({ cls := "java/lang/StringBuilder", name := "append", desc := "(Ljava/lang/String;)Ljava/lang/StringBuilder;" } : Jvm.MethodName) prog_33_method_7_code (2 : Nat) (Option.some (Jvm.ClassFile.FieldType.object "java/lang/StringBuilder")))) := by decide +kernel
theorem dw_w1307 : lw_tbl[1307]? = some ((Jvm.Cond.methodLink "java/lang/StringBuilder" (29 : Nat) ({ cls := "java/lang/AbstractStringBuilder", name := "append", desc := "(Ljava/lang/String;)Ljava/lang/AbstractStringBuilder;" } : Jvm.MethodName))) := by decide +kernel
theorem dw_w1308 : lw_tbl[1308]? = some ((Jvm.Cond.instanceMethod ({ cls := "java/lang/AbstractStringBuilder", name := "append", desc := "(Ljava/lang/String;)Ljava/lang/AbstractStringBuilder;" } : Jvm.MethodName))) := by decide +kernel
theorem dw_w1309 : lw_tbl[1309]? = some ((Jvm.Cond.code ({ cls := "java/lang/AbstractStringBuilder", name := "append", desc := "(Ljava/lang/String;)Ljava/lang/AbstractStringBuilder;" } : Jvm.MethodName) prog_20_method_22_code (3 : Nat) (Option.some (Jvm.ClassFile.FieldType.object "java/lang/AbstractStringBuilder")))) := by decide +kernel
theorem dw_w1314 : lw_tbl[1314]? = some ((Jvm.Cond.methodLink "java/lang/AbstractStringBuilder" (100 : Nat) ({ cls := "java/lang/AbstractStringBuilder", name := "ensureCapacityInternal", desc := "(I)V" } : Jvm.MethodName))) := by decide +kernel
theorem dw_w1316 : lw_tbl[1316]? = some ((Jvm.Cond.instanceMethod ({ cls := "java/lang/AbstractStringBuilder", name := "ensureCapacityInternal", desc := "(I)V" } : Jvm.MethodName))) := by decide +kernel
theorem dw_w1317 : lw_tbl[1317]? = some ((Jvm.Cond.code ({ cls := "java/lang/AbstractStringBuilder", name := "ensureCapacityInternal", desc := "(I)V" } : Jvm.MethodName) prog_20_method_9_code (3 : Nat) (Option.none : Option Jvm.ClassFile.FieldType))) := by decide +kernel
theorem dw_w1341 : lw_tbl[1341]? = some ((Jvm.Cond.methodLink "java/lang/AbstractStringBuilder" (83 : Nat) ({ cls := "java/lang/AbstractStringBuilder", name := "isLatin1", desc := "()Z" } : Jvm.MethodName))) := by decide +kernel
theorem dw_w1361 : lw_tbl[1361]? = some ((Jvm.Cond.methodLink "java/lang/AbstractStringBuilder" (32 : Nat) ({ cls := "java/lang/String", name := "length", desc := "()I" } : Jvm.MethodName))) := by decide +kernel
theorem dw_w1362 : lw_tbl[1362]? = some ((Jvm.Cond.methodLink "java/lang/AbstractStringBuilder" (208 : Nat) ({ cls := "java/lang/AbstractStringBuilder", name := "putStringAt", desc := "(ILjava/lang/String;)V" } : Jvm.MethodName))) := by decide +kernel
theorem dw_w1364 : lw_tbl[1364]? = some ((Jvm.Cond.instanceMethod ({ cls := "java/lang/AbstractStringBuilder", name := "putStringAt", desc := "(ILjava/lang/String;)V" } : Jvm.MethodName))) := by decide +kernel
theorem dw_w1365 : lw_tbl[1365]? = some ((Jvm.Cond.code ({ cls := "java/lang/AbstractStringBuilder", name := "putStringAt", desc := "(ILjava/lang/String;)V" } : Jvm.MethodName) prog_20_method_73_code (3 : Nat) (Option.none : Option Jvm.ClassFile.FieldType))) := by decide +kernel
theorem dw_w1366 : lw_tbl[1366]? = some ((Jvm.Cond.methodLink "java/lang/AbstractStringBuilder" (397 : Nat) ({ cls := "java/lang/AbstractStringBuilder", name := "inflateIfNeededFor", desc := "(Ljava/lang/String;)V" } : Jvm.MethodName))) := by decide +kernel
theorem dw_w1368 : lw_tbl[1368]? = some ((Jvm.Cond.instanceMethod ({ cls := "java/lang/AbstractStringBuilder", name := "inflateIfNeededFor", desc := "(Ljava/lang/String;)V" } : Jvm.MethodName))) := by decide +kernel
theorem dw_w1369 : lw_tbl[1369]? = some ((Jvm.Cond.code ({ cls := "java/lang/AbstractStringBuilder", name := "inflateIfNeededFor", desc := "(Ljava/lang/String;)V" } : Jvm.MethodName) prog_20_method_71_code (2 : Nat) (Option.none : Option Jvm.ClassFile.FieldType))) := by decide +kernel
theorem dw_w1370 : lw_tbl[1370]? = some ((Jvm.Cond.methodLink "java/lang/AbstractStringBuilder" (40 : Nat) ({ cls := "java/lang/String", name := "coder", desc := "()B" } : Jvm.MethodName))) := by decide +kernel
theorem dw_w1390 : lw_tbl[1390]? = some ((Jvm.Cond.methodLink "java/lang/AbstractStringBuilder" (399 : Nat) ({ cls := "java/lang/String", name := "getBytes", desc := "([BIB)V" } : Jvm.MethodName))) := by decide +kernel
theorem dw_w1391 : lw_tbl[1391]? = some ((Jvm.Cond.instanceMethod ({ cls := "java/lang/String", name := "getBytes", desc := "([BIB)V" } : Jvm.MethodName))) := by decide +kernel
theorem dw_w1392 : lw_tbl[1392]? = some ((Jvm.Cond.selects "java/lang/String" ({ cls := "java/lang/String", name := "getBytes", desc := "([BIB)V" } : Jvm.MethodName) ({ cls := "java/lang/String", name := "getBytes", desc := "([BIB)V" } : Jvm.MethodName))) := by decide +kernel
theorem dw_w1393 : lw_tbl[1393]? = some ((Jvm.Cond.code ({ cls := "java/lang/String", name := "getBytes", desc := "([BIB)V" } : Jvm.MethodName) prog_32_method_147_code (4 : Nat) (Option.none : Option Jvm.ClassFile.FieldType))) := by decide +kernel
theorem dw_w1394 : lw_tbl[1394]? = some ((Jvm.Cond.methodLink "java/lang/String" (212 : Nat) ({ cls := "java/lang/System", name := "arraycopy", desc := "(Ljava/lang/Object;ILjava/lang/Object;II)V" } : Jvm.MethodName))) := by decide +kernel
theorem dw_w1397 : lw_tbl[1397]? = some ((Jvm.Cond.instanceMethod ({ cls := "java/lang/StringBuilder", name := "append", desc := "(C)Ljava/lang/StringBuilder;" } : Jvm.MethodName))) := by decide +kernel
theorem dw_w1398 : lw_tbl[1398]? = some ((Jvm.Cond.selects "java/lang/StringBuilder" ({ cls := "java/lang/StringBuilder", name := "append", desc := "(C)Ljava/lang/StringBuilder;" } : Jvm.MethodName) ({ cls := "java/lang/StringBuilder", name := "append", desc := "(C)Ljava/lang/StringBuilder;" } : Jvm.MethodName))) := by decide +kernel
theorem dw_w1399 : lw_tbl[1399]? = some ((Jvm.Cond.code ({ cls := "java/lang/StringBuilder", name := "append", desc := "(C)Ljava/lang/StringBuilder;" } : Jvm.MethodName) prog_33_method_14_code (2 : Nat) (Option.some (Jvm.ClassFile.FieldType.object "java/lang/StringBuilder")))) := by decide +kernel
theorem dw_w1400 : lw_tbl[1400]? = some ((Jvm.Cond.methodLink "java/lang/StringBuilder" (50 : Nat) ({ cls := "java/lang/AbstractStringBuilder", name := "append", desc := "(C)Ljava/lang/AbstractStringBuilder;" } : Jvm.MethodName))) := by decide +kernel
theorem dw_w1401 : lw_tbl[1401]? = some ((Jvm.Cond.instanceMethod ({ cls := "java/lang/AbstractStringBuilder", name := "append", desc := "(C)Ljava/lang/AbstractStringBuilder;" } : Jvm.MethodName))) := by decide +kernel
theorem dw_w1402 : lw_tbl[1402]? = some ((Jvm.Cond.code ({ cls := "java/lang/AbstractStringBuilder", name := "append", desc := "(C)Ljava/lang/AbstractStringBuilder;" } : Jvm.MethodName) prog_20_method_31_code (2 : Nat) (Option.some (Jvm.ClassFile.FieldType.object "java/lang/AbstractStringBuilder")))) := by decide +kernel
theorem dw_w1403 : lw_tbl[1403]? = some ((Jvm.Cond.methodLink "java/lang/AbstractStringBuilder" (191 : Nat) ({ cls := "java/lang/StringLatin1", name := "canEncode", desc := "(C)Z" } : Jvm.MethodName))) := by decide +kernel
theorem dw_w1404 : lw_tbl[1404]? = some ((Jvm.Cond.static ({ cls := "java/lang/StringLatin1", name := "canEncode", desc := "(C)Z" } : Jvm.MethodName))) := by decide +kernel
theorem dw_w1405 : lw_tbl[1405]? = some ((Jvm.Cond.code ({ cls := "java/lang/StringLatin1", name := "canEncode", desc := "(C)Z" } : Jvm.MethodName) prog_34_method_3_code (1 : Nat) (Option.some Jvm.ClassFile.FieldType.boolean))) := by decide +kernel
theorem dw_w1626 : lw_tbl[1626]? = some ((Jvm.Cond.sameMethod "java/lang/AbstractStringBuilder" "java/lang/AbstractStringBuilder" "append" "(Ljava/lang/String;)Ljava/lang/AbstractStringBuilder;")) := by decide +kernel
theorem dw_w1633 : lw_tbl[1633]? = some ((Jvm.Cond.sameMethod "java/lang/AbstractStringBuilder" "java/lang/AbstractStringBuilder" "append" "(C)Ljava/lang/AbstractStringBuilder;")) := by decide +kernel
def dw_P_J5_ensureCapacityInternal_d00df (th : Nat) (x0 : Int32) (Y : dw_S) (Q : dw_S → Prop) : Prop :=
pw_ck (dw_is Y th 17) (
pw_nn (dw_r Y th 0) (fun (r21 : Nat) =>
pw_ck (dw_is Y r21 22) (
pw_ck (dw_is Y th 17) (
pw_lt ((Int32.ofNat (dw_l Y r21)) >>> ((dw_i Y th 1) &&& 31)) (fun (v22 : Int32) =>
tw_jn (fun (a23 : dw_S) =>
Q a23) (fun (j24 : (dw_S) → Prop) =>
if (x0 - v22) ≤ 0 then (j24 Y)
else (pw_ck (dw_is Y th 17) (
pw_nn (dw_r Y th 0) (fun (r25 : Nat) =>
False)))))))))
theorem dw_y_J5_ensureCapacityInternal_d00df : tw_My yJ5_ensureCapacityInternal_d00df cJ5_ensureCapacityInternal_d00df 3 none 1 := ⟨List.mem_of_getElem? dw_w1317, List.mem_of_getElem? dw_w64, by decide +kernel, by decide +kernel, by decide +kernel⟩
theorem dw_v_J5_ensureCapacityInternal_d00df : Cond.instanceMethod yJ5_ensureCapacityInternal_d00df ∈ lw_tbl ∧ True := ⟨List.mem_of_getElem? dw_w1316, trivial⟩
set_option maxRecDepth 100000 in
set_option maxHeartbeats 4000000 in
theorem dw_m_J5_ensureCapacityInternal_d00df {l : Launch} {b : Nat} {D : tw_G} {C : Nat → ClassId} {S : Nat → Nat} (hD : D.2 = []) {th : Nat} {x0 : Int32} {Y : dw_S} {Q : dw_S → Prop}  (h : dw_P_J5_ensureCapacityInternal_d00df th x0 Y Q) : dw_Met l b D C S yJ5_ensureCapacityInternal_d00df cJ5_ensureCapacityInternal_d00df 3 none ({ frames := 0, cells := 0, slots := 0, locals := 0 } : Room) [.ref (b + th), .int x0] Y (fun _ => none) (fun r => r) Q := by
  refine dw_metOf (dw_P_J5_ensureCapacityInternal_d00df th x0 Y Q) h _ _ Q (by decide +kernel) (Nat.le_of_ble_eq_true rfl) ?_
  intro z el eB eD eC eS eR X hA hnm hret hQ
  subst el eD eC eS
  have hb : tw_zB z ≤ b := Nat.le_of_eq eB
  have hA : dw_AK (tw_zB z) (tw_zS z) (tw_zs z) := by rw [eB]; exact hA
  have hfr : (tw_zR z).frames = 0 := by rw [eR]
  have hlo : (tw_zR z).locals = 0 := by rw [eR]
  have eMC : (tw_zR z).cells = 0 := by rw [eR]
  have eMS : (tw_zR z).slots = 0 := by rw [eR]
  have X : tw_X z cJ5_ensureCapacityInternal_d00df "java/lang/AbstractStringBuilder" 3 := X
  show dw_Rf (tw_cz z 0 0) b _ Y 0 [(0, .ref (b + th)), (1, .int x0)] []
  unfold dw_P_J5_ensureCapacityInternal_d00df
  refine e_aload_n (z := tw_cz z 0 0) X dJ5_ensureCapacityInternal_d00df_0 rfl 0 rfl ?_
  refine e_getf (ci := 17) (T := TJ4) (f := 0) (k := th) (z := tw_cz z 0 0) X dJ5_ensureCapacityInternal_d00df_1 (Or.inl ⟨_, dw_w1289⟩) dw_in17 rfl (by decide) (by decide) (fun h => dw_E17 h) rfl ?_
  refine e_nn (r := (dw_r Y th 0)) (LL := fun _ => [(0, .ref (b + th)), (1, .int x0)]) (SS := fun q => dw_v b q :: []) (fun r21 => ?_)
  show dw_Rf (tw_cz z 0 0) b _ Y _ [(0, .ref (b + th)), (1, .int x0)] [.ref (b + r21)]
  refine e_alen (k := r21) (kd := 22) (a := 5) (ty := .byte) (x := (0, .inl (dw_i Y r21))) (z := tw_cz z 0 0) X dJ5_ensureCapacityInternal_d00df_4 (by decide) (fun h => dw_E22 h) rfl ?_
  refine e_aload_n (z := tw_cz z 0 0) X dJ5_ensureCapacityInternal_d00df_5 rfl 0 rfl ?_
  refine e_getf (ci := 17) (T := TJ4) (f := 1) (k := th) (z := tw_cz z 0 0) X dJ5_ensureCapacityInternal_d00df_6 (Or.inl ⟨_, dw_w1290⟩) dw_in17 rfl (by decide) (by decide) (fun h => dw_E17 h) rfl ?_
  refine e_ishr (z := tw_cz z 0 0) X dJ5_ensureCapacityInternal_d00df_9 ?_
  refine e_istore_n (z := tw_cz z 0 0) X dJ5_ensureCapacityInternal_d00df_10 rfl (by decide) (LL := fun v22 => [(2, .int v22), (0, .ref (b + th)), (1, .int x0)]) (fun _ => rfl) (fun v22 => ?_)
  refine e_iload_n (z := tw_cz z 0 0) X dJ5_ensureCapacityInternal_d00df_11 rfl 2 rfl ?_
  refine e_iload_n (z := tw_cz z 0 0) X dJ5_ensureCapacityInternal_d00df_12 rfl 0 rfl ?_
  refine e_isub (z := tw_cz z 0 0) X dJ5_ensureCapacityInternal_d00df_13 ?_
  refine e_jn (α := dw_S) (zJ := fun a23 => tw_cz z 0 0) (YJ := fun a23 => a23) (pcJ := 38) (LJ := fun a23 => []) (stJ := fun a23 => []) (fun a23 => ?_) (fun j24 hj24 => ?_)
  ·
    exact dw_ckp (by exact ⟨Nat.le_of_ble_eq_true rfl, Nat.le_of_ble_eq_true rfl⟩) (e_vret (z := z) X eB dJ5_ensureCapacityInternal_d00df_38 hret ⟨eMC, eMS⟩ hQ rfl rfl)
  refine e_if_le (z := tw_cz z 0 0) X dJ5_ensureCapacityInternal_d00df_14 (tgt := 38) (by decide) ?_ ?_
  ·
    exact dw_Rf.sub [] rfl (hj24 Y)
  ·
    refine e_aload_n (z := tw_cz z 0 0) X dJ5_ensureCapacityInternal_d00df_17 rfl 1 rfl ?_
    refine e_aload_n (z := tw_cz z 0 0) X dJ5_ensureCapacityInternal_d00df_18 rfl 1 rfl ?_
    refine e_getf (ci := 17) (T := TJ4) (f := 0) (k := th) (z := tw_cz z 0 0) X dJ5_ensureCapacityInternal_d00df_19 (Or.inl ⟨_, dw_w1289⟩) dw_in17 rfl (by decide) (by decide) (fun h => dw_E17 h) rfl ?_
    refine e_nn (r := (dw_r Y th 0)) (LL := fun _ => [(2, .int v22), (0, .ref (b + th)), (1, .int x0)]) (SS := fun q => dw_v b q :: [.ref (b + th)]) (fun r25 => ?_)
    show dw_Rf (tw_cz z 0 0) b _ Y _ [(2, .int v22), (0, .ref (b + th)), (1, .int x0)] [.ref (b + r25), .ref (b + th)]
    refine e_aload_n (z := tw_cz z 0 0) X dJ5_ensureCapacityInternal_d00df_22 rfl 1 rfl ?_
    refine e_iload_n (z := tw_cz z 0 0) X dJ5_ensureCapacityInternal_d00df_23 rfl 2 rfl ?_
    exact fun h => h.elim
def dw_P_J1_canEncode_fc78d (x0 : Int32) (Y : dw_S) (Q : Int32 → Prop) : Prop :=
tw_jn (fun (a21 : Int32) =>
pw_ck (tw_01 a21 = true) (Q a21)) (fun (j22 : (Int32) → Prop) =>
if (255 : Int32) < x0 then (j22 (0 : Int32))
else (j22 (1 : Int32)))
theorem dw_y_J1_canEncode_fc78d : tw_My yJ1_canEncode_fc78d cJ1_canEncode_fc78d 1 (some .boolean) 1 := ⟨List.mem_of_getElem? dw_w1405, List.mem_of_getElem? dw_w61, by decide +kernel, by decide +kernel, by decide +kernel⟩
theorem dw_v_J1_canEncode_fc78d : tw_Ms yJ1_canEncode_fc78d := List.mem_of_getElem? dw_w1404
set_option maxRecDepth 100000 in
set_option maxHeartbeats 4000000 in
theorem dw_m_J1_canEncode_fc78d {l : Launch} {b : Nat} {D : tw_G} {C : Nat → ClassId} {S : Nat → Nat} (hD : D.2 = []) {x0 : Int32} {Y : dw_S} {Q : Int32 → Prop}  (h : dw_P_J1_canEncode_fc78d x0 Y Q) : dw_Met l b D C S yJ1_canEncode_fc78d cJ1_canEncode_fc78d 1 (some .boolean) ({ frames := 0, cells := 0, slots := 0, locals := 0 } : Room) [.int x0] Y (fun r => some (.int r)) (fun _ => Y) Q := by
  refine dw_metOf (dw_P_J1_canEncode_fc78d x0 Y Q) h _ _ Q (by decide +kernel) (Nat.le_of_ble_eq_true rfl) ?_
  intro z el eB eD eC eS eR X hA hnm hret hQ
  subst el eD eC eS
  have hb : tw_zB z ≤ b := Nat.le_of_eq eB
  have hA : dw_AK (tw_zB z) (tw_zS z) (tw_zs z) := by rw [eB]; exact hA
  have hfr : (tw_zR z).frames = 0 := by rw [eR]
  have hlo : (tw_zR z).locals = 0 := by rw [eR]
  have eMC : (tw_zR z).cells = 0 := by rw [eR]
  have eMS : (tw_zR z).slots = 0 := by rw [eR]
  have X : tw_X z cJ1_canEncode_fc78d "java/lang/StringLatin1" 1 := X
  show dw_Rf (tw_cz z 0 0) b _ Y 0 [(0, .int x0)] []
  unfold dw_P_J1_canEncode_fc78d
  refine e_iload_n (z := tw_cz z 0 0) X dJ1_canEncode_fc78d_0 rfl 0 rfl ?_
  refine e_sipush (z := tw_cz z 0 0) X dJ1_canEncode_fc78d_1 (v := (255 : Int32)) (by decide) ?_
  refine e_jn (α := Int32) (zJ := fun a21 => tw_cz z 0 0) (YJ := fun a21 => Y) (pcJ := 12) (LJ := fun a21 => []) (stJ := fun a21 => [.int a21]) (fun a21 => ?_) (fun j22 hj22 => ?_)
  ·
    exact dw_ckr (by exact ⟨Nat.le_of_ble_eq_true rfl, Nat.le_of_ble_eq_true rfl⟩) (e_zret (z := z) X eB dJ1_canEncode_fc78d_12 hret ⟨eMC, eMS⟩ hQ rfl rfl)
  refine e_icmp_gt (z := tw_cz z 0 0) X dJ1_canEncode_fc78d_4 (tgt := 11) (by decide) ?_ ?_
  ·
    refine e_iconst (z := tw_cz z 0 0) X dJ1_canEncode_fc78d_11 (v := (0 : Int32)) (by decide) ?_
    exact dw_Rf.sub [] rfl (hj22 (0 : Int32))
  ·
    refine e_iconst (z := tw_cz z 0 0) X dJ1_canEncode_fc78d_7 (v := (1 : Int32)) (by decide) ?_
    refine e_goto (z := tw_cz z 0 0) X dJ1_canEncode_fc78d_8 (tgt := 12) (by decide) ?_
    exact dw_Rf.sub [] rfl (hj22 (1 : Int32))
def dw_P_J5_append_3fe6f (th : Nat) (x0 : Int32) (Y : dw_S) (Q : Nat × dw_S → Prop) : Prop :=
pw_ck (dw_is Y th 17) (
pw_ck (dw_is Y th 17) (
dw_P_J5_ensureCapacityInternal_d00df th ((dw_i Y th 3) + (1 : Int32)) Y (fun (r21 : dw_S) =>
pw_ck (dw_is r21 th 17) (
dw_P_J5_isLatin1_aae02 th r21 (fun (r22 : Int32) =>
tw_jn (fun (a23 : dw_S) =>
Q (th, a23)) (fun (j24 : (dw_S) → Prop) =>
tw_jn (fun (a25 : Unit) =>
pw_ck (dw_is r21 th 17) (
dw_P_J5_isLatin1_aae02 th r21 (fun (r27 : Int32) =>
tw_jn (fun (a28 : Unit) =>
pw_ck (dw_is r21 th 17) (
pw_nn (dw_r r21 th 0) (fun (r30 : Nat) =>
pw_ck (dw_is r21 th 17) (
pw_ck (dw_is r21 th 17) (pw_lt (dw_pi r21 th 3 ((dw_i r21 th 3) + (1 : Int32))) (fun (Y31 : dw_S) =>
False)))))) (fun (j29 : (Unit) → Prop) =>
if r27 = 0 then (j29 ())
else (False))))) (fun (j26 : (Unit) → Prop) =>
if r22 = 0 then (j26 ())
else (dw_P_J1_canEncode_fc78d x0 r21 (fun (r32 : Int32) =>
if r32 = 0 then (j26 ())
else (pw_ck (dw_is r21 th 17) (
pw_nn (dw_r r21 th 0) (fun (r33 : Nat) =>
pw_ck (dw_is r21 th 17) (
pw_ck (dw_is r21 th 17) (pw_lt (dw_pi r21 th 3 ((dw_i r21 th 3) + (1 : Int32))) (fun (Y34 : dw_S) =>
pw_ck (dw_is Y34 r33 22 ∧ tw_ok (dw_i r21 th 3) (dw_l Y34 r33) = true) (pw_lt (dw_pi Y34 r33 (Int32.toNatClampNeg (dw_i r21 th 3)) (vp_nar .byte ((Int32.toInt8 x0).toInt32))) (fun (Y35 : dw_S) =>
j24 Y35)))))))))))))))))
theorem dw_y_J5_append_3fe6f : tw_My yJ5_append_3fe6f cJ5_append_3fe6f 2 (some (.object "java/lang/AbstractStringBuilder")) 1 := ⟨List.mem_of_getElem? dw_w1402, List.mem_of_getElem? dw_w64, by decide +kernel, by decide +kernel, by decide +kernel⟩
theorem dw_v_J5_append_3fe6f : Cond.instanceMethod yJ5_append_3fe6f ∈ lw_tbl ∧ True := ⟨List.mem_of_getElem? dw_w1401, trivial⟩
set_option maxRecDepth 100000 in
set_option maxHeartbeats 4000000 in
theorem dw_m_J5_append_3fe6f {l : Launch} {b : Nat} {D : tw_G} {C : Nat → ClassId} {S : Nat → Nat} (hD : D.2 = []) {th : Nat} {x0 : Int32} {Y : dw_S} {Q : Nat × dw_S → Prop}  (h : dw_P_J5_append_3fe6f th x0 Y Q) : dw_Met l b D C S yJ5_append_3fe6f cJ5_append_3fe6f 2 (some (.object "java/lang/AbstractStringBuilder")) ({ frames := 1, cells := 0, slots := 0, locals := 22 } : Room) [.ref (b + th), .int x0] Y (fun r => some (.ref (b + r.1))) (fun r => r.2) Q := by
  refine dw_metOf (dw_P_J5_append_3fe6f th x0 Y Q) h _ _ Q (by decide +kernel) (Nat.le_of_ble_eq_true rfl) ?_
  intro z el eB eD eC eS eR X hA hnm hret hQ
  subst el eD eC eS
  have hb : tw_zB z ≤ b := Nat.le_of_eq eB
  have hA : dw_AK (tw_zB z) (tw_zS z) (tw_zs z) := by rw [eB]; exact hA
  have hfr : (tw_zR z).frames = 1 := by rw [eR]
  have hlo : (tw_zR z).locals = 22 := by rw [eR]
  have eMC : (tw_zR z).cells = 0 := by rw [eR]
  have eMS : (tw_zR z).slots = 0 := by rw [eR]
  have X : tw_X z cJ5_append_3fe6f "java/lang/AbstractStringBuilder" 2 := X
  show dw_Rf (tw_cz z 0 0) b _ Y 0 [(0, .ref (b + th)), (1, .int x0)] []
  unfold dw_P_J5_append_3fe6f
  refine e_aload_n (z := tw_cz z 0 0) X dJ5_append_3fe6f_0 rfl 0 rfl ?_
  refine e_aload_n (z := tw_cz z 0 0) X dJ5_append_3fe6f_1 rfl 0 rfl ?_
  refine e_getf (ci := 17) (T := TJ4) (f := 3) (k := th) (z := tw_cz z 0 0) X dJ5_append_3fe6f_2 (Or.inl ⟨_, dw_w1292⟩) dw_in17 rfl (by decide) (by decide) (fun h => dw_E17 h) rfl ?_
  refine e_iconst (z := tw_cz z 0 0) X dJ5_append_3fe6f_5 (v := (1 : Int32)) (by decide) ?_
  refine e_iadd (z := tw_cz z 0 0) X dJ5_append_3fe6f_6 ?_
  refine dw_ckq (by exact ⟨Nat.le_of_ble_eq_true rfl, Nat.le_of_ble_eq_true rfl⟩) (e_callVP (k := th) (ci := 17) (Cn := "java/lang/StringBuilder") (T := TJ4) (N := 4) (c := 0) (s := 0) (As := [.int ((dw_i Y th 3) + (1 : Int32))]) (z := tw_cz z 0 0) X hA hb hD ⟨rfl, rfl⟩ ⟨eMC, eMS⟩ dJ5_append_3fe6f_7 (fun Q h => dw_m_J5_ensureCapacityInternal_d00df hD h) dw_y_J5_ensureCapacityInternal_d00df dw_v_J5_ensureCapacityInternal_d00df.1 (fun _ => hA.2.2.2.2.2.2.2.use 0 rfl) _ dw_w1314 (by decide) rfl (fun h => dw_E17 h) rfl ⟨tw_le hfr rfl, tw_le hlo rfl⟩ (Nat.le_of_ble_eq_true rfl) rfl (fun r21 => ?_))
  show dw_Rf (tw_cz z 0 0) b _ r21 _ [(0, .ref (b + th)), (1, .int x0)] []
  refine e_aload_n (z := tw_cz z 0 0) X dJ5_append_3fe6f_10 rfl 0 rfl ?_
  refine dw_ckq (by exact ⟨Nat.le_of_ble_eq_true rfl, Nat.le_of_ble_eq_true rfl⟩) (e_callV (k := th) (ci := 17) (Cn := "java/lang/StringBuilder") (T := TJ4) (N := 4) (c := 0) (s := 0) (As := []) (z := tw_cz z 0 0) X hA hb hD ⟨rfl, rfl⟩ ⟨eMC, eMS⟩ dJ5_append_3fe6f_11 (fun Q h => dw_m_J5_isLatin1_aae02 hD h) dw_y_J5_isLatin1_aae02 dw_v_J5_isLatin1_aae02 _ dw_w1341 (by decide) rfl (fun h => dw_E17 h) rfl ⟨tw_le hfr rfl, tw_le hlo rfl⟩ (Nat.le_of_ble_eq_true rfl) rfl (fun r22 => ?_))
  show dw_Rf (tw_cz z 0 0) b _ r21 _ [(0, .ref (b + th)), (1, .int x0)] [.int r22]
  refine e_jn (α := dw_S) (zJ := fun a23 => tw_cz z 0 0) (YJ := fun a23 => a23) (pcJ := 75) (LJ := fun a23 => [(0, .ref (b + th))]) (stJ := fun a23 => []) (fun a23 => ?_) (fun j24 hj24 => ?_)
  ·
    refine e_aload_n (z := tw_cz z 0 0) X dJ5_append_3fe6f_75 rfl 0 rfl ?_
    exact dw_ckp (by exact ⟨Nat.le_of_ble_eq_true rfl, Nat.le_of_ble_eq_true rfl⟩) (e_aret (z := z) X eB dJ5_append_3fe6f_76 hret (Or.inl ⟨_, rfl⟩) (Or.inr ⟨_, rfl⟩) ⟨eMC, eMS⟩ hQ rfl rfl)
  refine e_jn (α := Unit) (zJ := fun a25 => tw_cz z 0 0) (YJ := fun a25 => r21) (pcJ := 45) (LJ := fun a25 => [(0, .ref (b + th)), (1, .int x0)]) (stJ := fun a25 => []) (fun a25 => ?_) (fun j26 hj26 => ?_)
  ·
    refine e_aload_n (z := tw_cz z 0 0) X dJ5_append_3fe6f_45 rfl 0 rfl ?_
    refine dw_ckq (by exact ⟨Nat.le_of_ble_eq_true rfl, Nat.le_of_ble_eq_true rfl⟩) (e_callV (k := th) (ci := 17) (Cn := "java/lang/StringBuilder") (T := TJ4) (N := 4) (c := 0) (s := 0) (As := []) (z := tw_cz z 0 0) X hA hb hD ⟨rfl, rfl⟩ ⟨eMC, eMS⟩ dJ5_append_3fe6f_46 (fun Q h => dw_m_J5_isLatin1_aae02 hD h) dw_y_J5_isLatin1_aae02 dw_v_J5_isLatin1_aae02 _ dw_w1341 (by decide) rfl (fun h => dw_E17 h) rfl ⟨tw_le hfr rfl, tw_le hlo rfl⟩ (Nat.le_of_ble_eq_true rfl) rfl (fun r27 => ?_))
    show dw_Rf (tw_cz z 0 0) b _ r21 _ [(0, .ref (b + th)), (1, .int x0)] [.int r27]
    refine e_jn (α := Unit) (zJ := fun a28 => tw_cz z 0 0) (YJ := fun a28 => r21) (pcJ := 56) (LJ := fun a28 => [(0, .ref (b + th)), (1, .int x0)]) (stJ := fun a28 => []) (fun a28 => ?_) (fun j29 hj29 => ?_)
    ·
      refine e_aload_n (z := tw_cz z 0 0) X dJ5_append_3fe6f_56 rfl 0 rfl ?_
      refine e_getf (ci := 17) (T := TJ4) (f := 0) (k := th) (z := tw_cz z 0 0) X dJ5_append_3fe6f_57 (Or.inl ⟨_, dw_w1289⟩) dw_in17 rfl (by decide) (by decide) (fun h => dw_E17 h) rfl ?_
      refine e_nn (r := (dw_r r21 th 0)) (LL := fun _ => [(0, .ref (b + th)), (1, .int x0)]) (SS := fun q => dw_v b q :: []) (fun r30 => ?_)
      show dw_Rf (tw_cz z 0 0) b _ r21 _ [(0, .ref (b + th)), (1, .int x0)] [.ref (b + r30)]
      refine e_aload_n (z := tw_cz z 0 0) X dJ5_append_3fe6f_60 rfl 0 rfl ?_
      refine e_dup (z := tw_cz z 0 0) X dJ5_append_3fe6f_61 rfl ?_
      refine e_getf (ci := 17) (T := TJ4) (f := 3) (k := th) (z := tw_cz z 0 0) X dJ5_append_3fe6f_62 (Or.inl ⟨_, dw_w1292⟩) dw_in17 rfl (by decide) (by decide) (fun h => dw_E17 h) rfl ?_
      refine e_dup_x1 (ix := 0) (z := tw_cz z 0 0) X dJ5_append_3fe6f_65 rfl rfl ?_
      refine e_iconst (z := tw_cz z 0 0) X dJ5_append_3fe6f_66 (v := (1 : Int32)) (by decide) ?_
      refine e_iadd (z := tw_cz z 0 0) X dJ5_append_3fe6f_67 ?_
      show dw_Rf (tw_cz z 0 0) b _ r21 _ [(0, .ref (b + th)), (1, .int x0)] (.int ((dw_i r21 th 3) + (1 : Int32)) :: .ref (b + th) :: [.int (dw_i r21 th 3), .ref (b + r30)])
      refine e_put (ci := 17) (T := TJ4) (f := 3) (ty := .int) (k := th) (z := tw_cz z 0 0) X hb dJ5_append_3fe6f_68 (Or.inl ⟨_, dw_w1292⟩) dw_in17 tyJ4 tyJ4_ok nmJ4 rfl (by decide) rfl (by decide +kernel) rfl rfl (by decide) (fun h => dw_F17 h) (Nat.le_of_ble_eq_true rfl) (fun h => dw_p17_3 h) rfl rfl rfl (fun a ha => dw_E_pi ha) (fun Y31 => ?_)
      refine e_iload_n (z := tw_cz z 0 0) X dJ5_append_3fe6f_71 rfl 1 rfl ?_
      exact fun h => h.elim
    refine e_if_eq (z := tw_cz z 0 0) X dJ5_append_3fe6f_49 (tgt := 56) (by decide) ?_ ?_
    ·
      exact hj29 ()
    ·
      refine e_aload_n (z := tw_cz z 0 0) X dJ5_append_3fe6f_52 rfl 0 rfl ?_
      exact fun h => h.elim
  refine e_if_eq (z := tw_cz z 0 0) X dJ5_append_3fe6f_14 (tgt := 45) (by decide) ?_ ?_
  ·
    exact hj26 ()
  ·
    refine e_iload_n (z := tw_cz z 0 0) X dJ5_append_3fe6f_17 rfl 1 rfl ?_
    refine dw_ckp (by exact ⟨Nat.le_of_ble_eq_true rfl, Nat.le_of_ble_eq_true rfl⟩) (e_callS (c := 0) (s := 0) (As := [.int x0]) (z := tw_cz z 0 0) X hA hb hD ⟨rfl, rfl⟩ ⟨eMC, eMS⟩ dJ5_append_3fe6f_18 (fun Q h => dw_m_J1_canEncode_fc78d hD h) dw_y_J1_canEncode_fc78d dw_v_J1_canEncode_fc78d _ dw_w1403 rfl ⟨tw_le hfr rfl, tw_le hlo rfl⟩ (Nat.le_of_ble_eq_true rfl) rfl (fun r32 => ?_))
    show dw_Rf (tw_cz z 0 0) b _ r21 _ [(0, .ref (b + th)), (1, .int x0)] [.int r32]
    refine e_if_eq (z := tw_cz z 0 0) X dJ5_append_3fe6f_21 (tgt := 45) (by decide) ?_ ?_
    ·
      exact hj26 ()
    ·
      refine e_aload_n (z := tw_cz z 0 0) X dJ5_append_3fe6f_24 rfl 0 rfl ?_
      refine e_getf (ci := 17) (T := TJ4) (f := 0) (k := th) (z := tw_cz z 0 0) X dJ5_append_3fe6f_25 (Or.inl ⟨_, dw_w1289⟩) dw_in17 rfl (by decide) (by decide) (fun h => dw_E17 h) rfl ?_
      refine e_nn (r := (dw_r r21 th 0)) (LL := fun _ => [(0, .ref (b + th)), (1, .int x0)]) (SS := fun q => dw_v b q :: []) (fun r33 => ?_)
      show dw_Rf (tw_cz z 0 0) b _ r21 _ [(0, .ref (b + th)), (1, .int x0)] [.ref (b + r33)]
      refine e_aload_n (z := tw_cz z 0 0) X dJ5_append_3fe6f_28 rfl 0 rfl ?_
      refine e_dup (z := tw_cz z 0 0) X dJ5_append_3fe6f_29 rfl ?_
      refine e_getf (ci := 17) (T := TJ4) (f := 3) (k := th) (z := tw_cz z 0 0) X dJ5_append_3fe6f_30 (Or.inl ⟨_, dw_w1292⟩) dw_in17 rfl (by decide) (by decide) (fun h => dw_E17 h) rfl ?_
      refine e_dup_x1 (ix := 0) (z := tw_cz z 0 0) X dJ5_append_3fe6f_33 rfl rfl ?_
      refine e_iconst (z := tw_cz z 0 0) X dJ5_append_3fe6f_34 (v := (1 : Int32)) (by decide) ?_
      refine e_iadd (z := tw_cz z 0 0) X dJ5_append_3fe6f_35 ?_
      show dw_Rf (tw_cz z 0 0) b _ r21 _ [(0, .ref (b + th)), (1, .int x0)] (.int ((dw_i r21 th 3) + (1 : Int32)) :: .ref (b + th) :: [.int (dw_i r21 th 3), .ref (b + r33)])
      refine e_put (ci := 17) (T := TJ4) (f := 3) (ty := .int) (k := th) (z := tw_cz z 0 0) X hb dJ5_append_3fe6f_36 (Or.inl ⟨_, dw_w1292⟩) dw_in17 tyJ4 tyJ4_ok nmJ4 rfl (by decide) rfl (by decide +kernel) rfl rfl (by decide) (fun h => dw_F17 h) (Nat.le_of_ble_eq_true rfl) (fun h => dw_p17_3 h) rfl rfl rfl (fun a ha => dw_E_pi ha) (fun Y34 => ?_)
      refine e_iload_n (z := tw_cz z 0 0) X dJ5_append_3fe6f_39 rfl 1 rfl ?_
      refine e_i2b (z := tw_cz z 0 0) X dJ5_append_3fe6f_40 rfl ?_
      refine e_bast (k := r33) (z := tw_cz z 0 0) X hb dJ5_append_3fe6f_41 (fun Y35 => ?_)
      refine e_goto (z := tw_cz z 0 0) X dJ5_append_3fe6f_42 (tgt := 75) (by decide) ?_
      exact dw_Rf.sub [0] rfl (hj24 Y35)
def dw_P_J4_append_cf468 (th : Nat) (x0 : Int32) (Y : dw_S) (Q : Nat × dw_S → Prop) : Prop :=
pw_ck (dw_is Y th 17) (
dw_P_J5_append_3fe6f th x0 Y (fun (r21 : Nat × dw_S) =>
Q (th, r21.2)))
theorem dw_y_J4_append_cf468 : tw_My yJ4_append_cf468 cJ4_append_cf468 2 (some (.object "java/lang/StringBuilder")) 1 := ⟨List.mem_of_getElem? dw_w1399, List.mem_of_getElem? dw_w65, by decide +kernel, by decide +kernel, by decide +kernel⟩
theorem dw_v_J4_append_cf468 : dw_Mv yJ4_append_cf468 "java/lang/StringBuilder" := ⟨List.mem_of_getElem? dw_w1397, List.mem_of_getElem? dw_w1398⟩
set_option maxRecDepth 100000 in
set_option maxHeartbeats 4000000 in
theorem dw_m_J4_append_cf468 {l : Launch} {b : Nat} {D : tw_G} {C : Nat → ClassId} {S : Nat → Nat} (hD : D.2 = []) {th : Nat} {x0 : Int32} {Y : dw_S} {Q : Nat × dw_S → Prop}  (h : dw_P_J4_append_cf468 th x0 Y Q) : dw_Met l b D C S yJ4_append_cf468 cJ4_append_cf468 2 (some (.object "java/lang/StringBuilder")) ({ frames := 2, cells := 0, slots := 0, locals := 43 } : Room) [.ref (b + th), .int x0] Y (fun r => some (.ref (b + r.1))) (fun r => r.2) Q := by
  refine dw_metOf (dw_P_J4_append_cf468 th x0 Y Q) h _ _ Q (by decide +kernel) (Nat.le_of_ble_eq_true rfl) ?_
  intro z el eB eD eC eS eR X hA hnm hret hQ
  subst el eD eC eS
  have hb : tw_zB z ≤ b := Nat.le_of_eq eB
  have hA : dw_AK (tw_zB z) (tw_zS z) (tw_zs z) := by rw [eB]; exact hA
  have hfr : (tw_zR z).frames = 2 := by rw [eR]
  have hlo : (tw_zR z).locals = 43 := by rw [eR]
  have eMC : (tw_zR z).cells = 0 := by rw [eR]
  have eMS : (tw_zR z).slots = 0 := by rw [eR]
  have X : tw_X z cJ4_append_cf468 "java/lang/StringBuilder" 2 := X
  show dw_Rf (tw_cz z 0 0) b _ Y 0 [(0, .ref (b + th)), (1, .int x0)] []
  unfold dw_P_J4_append_cf468
  refine e_aload_n (z := tw_cz z 0 0) X dJ4_append_cf468_0 rfl 0 rfl ?_
  refine e_iload_n (z := tw_cz z 0 0) X dJ4_append_cf468_1 rfl 1 rfl ?_
  refine dw_ckq (by exact ⟨Nat.le_of_ble_eq_true rfl, Nat.le_of_ble_eq_true rfl⟩) (e_callU (k := th) (ci := 17) (Cn := "java/lang/StringBuilder") (T := TJ4) (N := 4) (c := 0) (s := 0) (As := [.int x0]) (z := tw_cz z 0 0) X hA hb hD ⟨rfl, rfl⟩ ⟨eMC, eMS⟩ dJ4_append_cf468_2 (fun Q h => dw_m_J5_append_3fe6f hD h) dw_y_J5_append_3fe6f dw_v_J5_append_3fe6f.1 (List.mem_of_getElem? dw_w1633) (List.mem_of_getElem? dw_w1301) (by decide) _ dw_w1400 (by decide) rfl (fun h => dw_E17 h) rfl ⟨tw_le hfr rfl, tw_le hlo rfl⟩ (Nat.le_of_ble_eq_true rfl) rfl (fun r21 => ?_))
  show dw_Rf (tw_cz z 0 0) b _ r21.2 _ [(0, .ref (b + th)), (1, .int x0)] [.ref (b + r21.1)]
  refine e_pop (z := tw_cz z 0 0) X dJ4_append_cf468_5 rfl ?_
  refine e_aload_n (z := tw_cz z 0 0) X dJ4_append_cf468_6 rfl 0 rfl ?_
  exact dw_ckp (by exact ⟨Nat.le_of_ble_eq_true rfl, Nat.le_of_ble_eq_true rfl⟩) (e_aret (z := z) X eB dJ4_append_cf468_7 hret (Or.inl ⟨_, rfl⟩) (Or.inr ⟨_, rfl⟩) ⟨eMC, eMS⟩ hQ rfl rfl)
def dw_P_J5_inflateIfNeededFor_a7421 (th : Nat) (w0 : Nat) (Y : dw_S) (Q : dw_S → Prop) : Prop :=
tw_jn (fun (a21 : Unit) =>
Q Y) (fun (j22 : (Unit) → Prop) =>
pw_ck (dw_is Y th 17) (
if (dw_i Y th 1) = (0 : Int32) then (j22 ())
else (False)))
theorem dw_y_J5_inflateIfNeededFor_a7421 : tw_My yJ5_inflateIfNeededFor_a7421 cJ5_inflateIfNeededFor_a7421 2 none 1 := ⟨List.mem_of_getElem? dw_w1369, List.mem_of_getElem? dw_w64, by decide +kernel, by decide +kernel, by decide +kernel⟩
theorem dw_v_J5_inflateIfNeededFor_a7421 : Cond.instanceMethod yJ5_inflateIfNeededFor_a7421 ∈ lw_tbl ∧ True := ⟨List.mem_of_getElem? dw_w1368, trivial⟩
set_option maxRecDepth 100000 in
set_option maxHeartbeats 4000000 in
theorem dw_m_J5_inflateIfNeededFor_a7421 {l : Launch} {b : Nat} {D : tw_G} {C : Nat → ClassId} {S : Nat → Nat} (hD : D.2 = []) {th : Nat} {w0 : Nat} {Y : dw_S} {Q : dw_S → Prop} (hw0 : w0 < 33) (h : dw_P_J5_inflateIfNeededFor_a7421 th w0 Y Q) : dw_Met l b D C S yJ5_inflateIfNeededFor_a7421 cJ5_inflateIfNeededFor_a7421 2 none ({ frames := 6, cells := 0, slots := 0, locals := 120 } : Room) [.ref (b + th), .ref (S w0)] Y (fun _ => none) (fun r => r) Q := by
  refine dw_metOf (dw_P_J5_inflateIfNeededFor_a7421 th w0 Y Q) h _ _ Q (by decide +kernel) (Nat.le_of_ble_eq_true rfl) ?_
  intro z el eB eD eC eS eR X hA hnm hret hQ
  subst el eD eC eS
  have hb : tw_zB z ≤ b := Nat.le_of_eq eB
  have hA : dw_AK (tw_zB z) (tw_zS z) (tw_zs z) := by rw [eB]; exact hA
  have hfr : (tw_zR z).frames = 6 := by rw [eR]
  have hlo : (tw_zR z).locals = 120 := by rw [eR]
  have eMC : (tw_zR z).cells = 0 := by rw [eR]
  have eMS : (tw_zR z).slots = 0 := by rw [eR]
  have X : tw_X z cJ5_inflateIfNeededFor_a7421 "java/lang/AbstractStringBuilder" 2 := X
  show dw_Rf (tw_cz z 0 0) b _ Y 0 [(0, .ref (b + th)), (1, .ref (tw_zS z w0))] []
  unfold dw_P_J5_inflateIfNeededFor_a7421
  refine e_scom (z := tw_cz z 0 0) X dJ5_inflateIfNeededFor_a7421_0 dw_w1281 ?_
  refine e_jn (α := Unit) (zJ := fun a21 => tw_cz z 0 0) (YJ := fun a21 => Y) (pcJ := 21) (LJ := fun a21 => []) (stJ := fun a21 => []) (fun a21 => ?_) (fun j22 hj22 => ?_)
  ·
    exact dw_ckp (by exact ⟨Nat.le_of_ble_eq_true rfl, Nat.le_of_ble_eq_true rfl⟩) (e_vret (z := z) X eB dJ5_inflateIfNeededFor_a7421_21 hret ⟨eMC, eMS⟩ hQ rfl rfl)
  refine dw_Rf.eq (E' := if (1 : Int32) = 0 then False else _) (fun h => by rw [if_neg (by decide)]; exact h) ?_
  refine e_if_eq (z := tw_cz z 0 0) X dJ5_inflateIfNeededFor_a7421_3 (tgt := 21) (by decide) (fun h => h.elim) ?_
  refine e_aload_n (z := tw_cz z 0 0) X dJ5_inflateIfNeededFor_a7421_6 rfl 0 rfl ?_
  refine e_getf (ci := 17) (T := TJ4) (f := 1) (k := th) (z := tw_cz z 0 0) X dJ5_inflateIfNeededFor_a7421_7 (Or.inl ⟨_, dw_w1290⟩) dw_in17 rfl (by decide) (by decide) (fun h => dw_E17 h) rfl ?_
  refine e_aload_n (z := tw_cz z 0 0) X dJ5_inflateIfNeededFor_a7421_10 rfl 1 rfl ?_
  refine dw_ckp (by exact ⟨Nat.le_of_ble_eq_true rfl, Nat.le_of_ble_eq_true rfl⟩) (dw_bdu (e_clT (w := w0) (e := (some () : Option Unit)) (rv := fun _ => (some (.int (0 : Int32)))) (σ' := fun _ => dw_s Y) (As := []) (z := tw_cz z 0 0) X hb ⟨rfl, rfl⟩ ⟨eMC, eMS⟩ dJ5_inflateIfNeededFor_a7421_11 (fun _ _ => tw_m_J0_coder_7d493 hw0) tw_y_J0_coder_7d493 tw_v_J0_coder_7d493 hw0 _ dw_w1370 rfl ⟨rfl, rfl, tw_le hfr rfl, tw_le hlo rfl⟩ (Nat.le_of_ble_eq_true rfl) rfl (fun _ => ?_)))
  show dw_Rf (tw_cz z 0 0) b _ (dw_cs Y (dw_s Y)) _ [(0, .ref (b + th)), (1, .ref (tw_zS z w0))] [.int (0 : Int32), .int (dw_i Y th 1)]
  refine e_icmp_eq (z := tw_cz z 0 0) X dJ5_inflateIfNeededFor_a7421_14 (tgt := 21) (by decide) ?_ ?_
  ·
    exact dw_Rf.sub [] rfl (hj22 ())
  ·
    refine e_aload_n (z := tw_cz z 0 0) X dJ5_inflateIfNeededFor_a7421_17 rfl 0 rfl ?_
    exact fun h => h.elim
def dw_P_J0_getBytes_840e7c (wt : Nat) (r0 : Nat) (x1 : Int32) (x2 : Int32) (Y : dw_S) (Q : dw_S → Prop) : Prop :=
tw_jn (fun (a21 : dw_S) =>
Q a21) (fun (j22 : (dw_S) → Prop) =>
if ¬ (0 : Int32) = x2 then (False)
else (pw_ck (dw_is (dw_cs Y (dw_s Y)) r0 22 ∧ dw_cpo (0 : Int32) (x1 <<< (x2 &&& 31)) (Int32.ofNat (tw_len.getD wt 0)) (tw_len.getD wt 0) (dw_l (dw_cs Y (dw_s Y)) r0)) (pw_lt (dw_pA (dw_cs Y (dw_s Y)) r0 (va_cpy (fun i => (tw_byt.getD wt []).getD i 0) (dw_i (dw_cs Y (dw_s Y)) r0) (Int32.toNatClampNeg (0 : Int32)) (Int32.toNatClampNeg (x1 <<< (x2 &&& 31))) (Int32.toNatClampNeg (Int32.ofNat (tw_len.getD wt 0))))) (fun (Y23 : dw_S) =>
j22 Y23))))
theorem dw_y_J0_getBytes_840e7 : tw_My yJ0_getBytes_840e7 cJ0_getBytes_840e7 4 none 3 := ⟨List.mem_of_getElem? dw_w1393, List.mem_of_getElem? dw_w60, by decide +kernel, by decide +kernel, by decide +kernel⟩
theorem dw_v_J0_getBytes_840e7 : dw_Mv yJ0_getBytes_840e7 "java/lang/String" := ⟨List.mem_of_getElem? dw_w1391, List.mem_of_getElem? dw_w1392⟩
set_option maxRecDepth 100000 in
set_option maxHeartbeats 4000000 in
theorem dw_m_J0_getBytes_840e7c {l : Launch} {b : Nat} {D : tw_G} {C : Nat → ClassId} {S : Nat → Nat} (hD : D.2 = []) {wt : Nat} {r0 : Nat} {x1 : Int32} {x2 : Int32} {Y : dw_S} {Q : dw_S → Prop} (hwt : wt < 33) (h : dw_P_J0_getBytes_840e7c wt r0 x1 x2 Y Q) : dw_Met l b D C S yJ0_getBytes_840e7 cJ0_getBytes_840e7 4 none ({ frames := 1, cells := 0, slots := 0, locals := 60 } : Room) [.ref (S wt), .ref (b + r0), .int x1, .int x2] Y (fun _ => none) (fun r => r) Q := by
  refine dw_metOf (dw_P_J0_getBytes_840e7c wt r0 x1 x2 Y Q) h _ _ Q (by decide +kernel) (Nat.le_of_ble_eq_true rfl) ?_
  intro z el eB eD eC eS eR X hA hnm hret hQ
  subst el eD eC eS
  have hb : tw_zB z ≤ b := Nat.le_of_eq eB
  have hA : dw_AK (tw_zB z) (tw_zS z) (tw_zs z) := by rw [eB]; exact hA
  have hfr : (tw_zR z).frames = 1 := by rw [eR]
  have hlo : (tw_zR z).locals = 60 := by rw [eR]
  have eMC : (tw_zR z).cells = 0 := by rw [eR]
  have eMS : (tw_zR z).slots = 0 := by rw [eR]
  have X : tw_X z cJ0_getBytes_840e7 "java/lang/String" 4 := X
  show dw_Rf (tw_cz z 0 0) b _ Y 0 [(0, .ref (tw_zS z wt)), (1, .ref (b + r0)), (2, .int x1), (3, .int x2)] []
  unfold dw_P_J0_getBytes_840e7c
  refine e_aload_n (z := tw_cz z 0 0) X dJ0_getBytes_840e7_0 rfl 0 rfl ?_
  refine dw_ckp (by exact ⟨Nat.le_of_ble_eq_true rfl, Nat.le_of_ble_eq_true rfl⟩) (dw_bdu (e_clT (w := wt) (e := (some () : Option Unit)) (rv := fun _ => (some (.int (0 : Int32)))) (σ' := fun _ => dw_s Y) (As := []) (z := tw_cz z 0 0) X hb ⟨rfl, rfl⟩ ⟨eMC, eMS⟩ dJ0_getBytes_840e7_1 (fun _ _ => tw_m_J0_coder_7d493 hwt) tw_y_J0_coder_7d493 tw_v_J0_coder_7d493 hwt _ dw_w853 rfl ⟨rfl, rfl, tw_le hfr rfl, tw_le hlo rfl⟩ (Nat.le_of_ble_eq_true rfl) rfl (fun _ => ?_)))
  show dw_Rf (tw_cz z 0 0) b _ (dw_cs Y (dw_s Y)) _ [(0, .ref (tw_zS z wt)), (1, .ref (b + r0)), (2, .int x1), (3, .int x2)] [.int (0 : Int32)]
  refine e_iload_n (z := tw_cz z 0 0) X dJ0_getBytes_840e7_4 rfl 3 rfl ?_
  refine e_jn (α := dw_S) (zJ := fun a21 => tw_cz z 0 0) (YJ := fun a21 => a21) (pcJ := 43) (LJ := fun a21 => []) (stJ := fun a21 => []) (fun a21 => ?_) (fun j22 hj22 => ?_)
  ·
    exact dw_ckp (by exact ⟨Nat.le_of_ble_eq_true rfl, Nat.le_of_ble_eq_true rfl⟩) (e_vret (z := z) X eB dJ0_getBytes_840e7_43 hret ⟨eMC, eMS⟩ hQ rfl rfl)
  refine e_icmp_ne (z := tw_cz z 0 0) X dJ0_getBytes_840e7_5 (tgt := 28) (by decide) ?_ ?_
  ·
    refine e_aload_n (z := tw_cz z 0 0) X dJ0_getBytes_840e7_28 rfl 0 rfl ?_
    refine e_ssval (z := tw_cz z 0 0) X dJ0_getBytes_840e7_29 dw_w1487 hwt ?_
    refine e_iconst (z := tw_cz z 0 0) X dJ0_getBytes_840e7_32 (v := (0 : Int32)) (by decide) ?_
    refine e_aload_n (z := tw_cz z 0 0) X dJ0_getBytes_840e7_33 rfl 1 rfl ?_
    refine e_iload_n (z := tw_cz z 0 0) X dJ0_getBytes_840e7_34 rfl 2 rfl ?_
    refine e_aload_n (z := tw_cz z 0 0) X dJ0_getBytes_840e7_35 rfl 0 rfl ?_
    refine e_ssval (z := tw_cz z 0 0) X dJ0_getBytes_840e7_36 dw_w1487 hwt ?_
    refine e_sslen (ix := 0) (z := tw_cz z 0 0) X dJ0_getBytes_840e7_39 hwt ?_
    exact fun h => h.elim
  ·
    refine e_aload_n (z := tw_cz z 0 0) X dJ0_getBytes_840e7_8 rfl 0 rfl ?_
    refine e_ssval (z := tw_cz z 0 0) X dJ0_getBytes_840e7_9 dw_w1487 hwt ?_
    refine e_iconst (z := tw_cz z 0 0) X dJ0_getBytes_840e7_12 (v := (0 : Int32)) (by decide) ?_
    refine e_aload_n (z := tw_cz z 0 0) X dJ0_getBytes_840e7_13 rfl 1 rfl ?_
    refine e_iload_n (z := tw_cz z 0 0) X dJ0_getBytes_840e7_14 rfl 2 rfl ?_
    refine e_iload_n (z := tw_cz z 0 0) X dJ0_getBytes_840e7_15 rfl 3 rfl ?_
    refine e_ishl (z := tw_cz z 0 0) X dJ0_getBytes_840e7_16 ?_
    refine e_aload_n (z := tw_cz z 0 0) X dJ0_getBytes_840e7_17 rfl 0 rfl ?_
    refine e_ssval (z := tw_cz z 0 0) X dJ0_getBytes_840e7_18 dw_w1487 hwt ?_
    refine e_sslen (ix := 0) (z := tw_cz z 0 0) X dJ0_getBytes_840e7_21 hwt ?_
    refine e_copyt (w := wt) (k1 := r0) (z := tw_cz z 0 0) X hb hwt dJ0_getBytes_840e7_22 _ dw_w1394 (tw_le hfr rfl) (Nat.le_trans (by decide +kernel) (tw_le hlo (c := 60) rfl)) (fun Y23 => ?_)
    refine e_goto (z := tw_cz z 0 0) X dJ0_getBytes_840e7_25 (tgt := 43) (by decide) ?_
    exact dw_Rf.sub [] rfl (hj22 Y23)
def dw_P_J5_putStringAt_47b60 (th : Nat) (x0 : Int32) (w1 : Nat) (Y : dw_S) (Q : dw_S → Prop) : Prop :=
pw_ck (dw_is Y th 17) (
dw_P_J5_inflateIfNeededFor_a7421 th w1 Y (fun (r21 : dw_S) =>
pw_ck (dw_is r21 th 17) (
pw_nn (dw_r r21 th 0) (fun (r22 : Nat) =>
pw_ck (dw_is r21 th 17) (
dw_P_J0_getBytes_840e7c w1 r22 x0 (dw_i r21 th 1) r21 (fun (r23 : dw_S) =>
Q r23))))))
theorem dw_y_J5_putStringAt_47b60 : tw_My yJ5_putStringAt_47b60 cJ5_putStringAt_47b60 3 none 2 := ⟨List.mem_of_getElem? dw_w1365, List.mem_of_getElem? dw_w64, by decide +kernel, by decide +kernel, by decide +kernel⟩
theorem dw_v_J5_putStringAt_47b60 : Cond.instanceMethod yJ5_putStringAt_47b60 ∈ lw_tbl ∧ True := ⟨List.mem_of_getElem? dw_w1364, trivial⟩
set_option maxRecDepth 100000 in
set_option maxHeartbeats 4000000 in
theorem dw_m_J5_putStringAt_47b60 {l : Launch} {b : Nat} {D : tw_G} {C : Nat → ClassId} {S : Nat → Nat} (hD : D.2 = []) {th : Nat} {x0 : Int32} {w1 : Nat} {Y : dw_S} {Q : dw_S → Prop} (hw1 : w1 < 33) (h : dw_P_J5_putStringAt_47b60 th x0 w1 Y Q) : dw_Met l b D C S yJ5_putStringAt_47b60 cJ5_putStringAt_47b60 3 none ({ frames := 7, cells := 0, slots := 0, locals := 141 } : Room) [.ref (b + th), .int x0, .ref (S w1)] Y (fun _ => none) (fun r => r) Q := by
  refine dw_metOf (dw_P_J5_putStringAt_47b60 th x0 w1 Y Q) h _ _ Q (by decide +kernel) (Nat.le_of_ble_eq_true rfl) ?_
  intro z el eB eD eC eS eR X hA hnm hret hQ
  subst el eD eC eS
  have hb : tw_zB z ≤ b := Nat.le_of_eq eB
  have hA : dw_AK (tw_zB z) (tw_zS z) (tw_zs z) := by rw [eB]; exact hA
  have hfr : (tw_zR z).frames = 7 := by rw [eR]
  have hlo : (tw_zR z).locals = 141 := by rw [eR]
  have eMC : (tw_zR z).cells = 0 := by rw [eR]
  have eMS : (tw_zR z).slots = 0 := by rw [eR]
  have X : tw_X z cJ5_putStringAt_47b60 "java/lang/AbstractStringBuilder" 3 := X
  show dw_Rf (tw_cz z 0 0) b _ Y 0 [(0, .ref (b + th)), (1, .int x0), (2, .ref (tw_zS z w1))] []
  unfold dw_P_J5_putStringAt_47b60
  refine e_aload_n (z := tw_cz z 0 0) X dJ5_putStringAt_47b60_0 rfl 0 rfl ?_
  refine e_aload_n (z := tw_cz z 0 0) X dJ5_putStringAt_47b60_1 rfl 2 rfl ?_
  refine dw_ckq (by exact ⟨Nat.le_of_ble_eq_true rfl, Nat.le_of_ble_eq_true rfl⟩) (e_callVP (k := th) (ci := 17) (Cn := "java/lang/StringBuilder") (T := TJ4) (N := 4) (c := 0) (s := 0) (As := [.ref (tw_zS z w1)]) (z := tw_cz z 0 0) X hA hb hD ⟨rfl, rfl⟩ ⟨eMC, eMS⟩ dJ5_putStringAt_47b60_2 (fun Q h => dw_m_J5_inflateIfNeededFor_a7421 hD hw1 h) dw_y_J5_inflateIfNeededFor_a7421 dw_v_J5_inflateIfNeededFor_a7421.1 (fun _ => hA.2.2.2.2.2.2.2.use 1 rfl) _ dw_w1366 (by decide) rfl (fun h => dw_E17 h) rfl ⟨tw_le hfr rfl, tw_le hlo rfl⟩ (Nat.le_of_ble_eq_true rfl) rfl (fun r21 => ?_))
  show dw_Rf (tw_cz z 0 0) b _ r21 _ [(0, .ref (b + th)), (1, .int x0), (2, .ref (tw_zS z w1))] []
  refine e_aload_n (z := tw_cz z 0 0) X dJ5_putStringAt_47b60_5 rfl 2 rfl ?_
  refine e_aload_n (z := tw_cz z 0 0) X dJ5_putStringAt_47b60_6 rfl 0 rfl ?_
  refine e_getf (ci := 17) (T := TJ4) (f := 0) (k := th) (z := tw_cz z 0 0) X dJ5_putStringAt_47b60_7 (Or.inl ⟨_, dw_w1289⟩) dw_in17 rfl (by decide) (by decide) (fun h => dw_E17 h) rfl ?_
  refine e_nn (r := (dw_r r21 th 0)) (LL := fun _ => [(0, .ref (b + th)), (1, .int x0), (2, .ref (tw_zS z w1))]) (SS := fun q => dw_v b q :: [.ref (tw_zS z w1)]) (fun r22 => ?_)
  show dw_Rf (tw_cz z 0 0) b _ r21 _ [(0, .ref (b + th)), (1, .int x0), (2, .ref (tw_zS z w1))] [.ref (b + r22), .ref (tw_zS z w1)]
  refine e_iload_n (z := tw_cz z 0 0) X dJ5_putStringAt_47b60_10 rfl 1 rfl ?_
  refine e_aload_n (z := tw_cz z 0 0) X dJ5_putStringAt_47b60_11 rfl 0 rfl ?_
  refine e_getf (ci := 17) (T := TJ4) (f := 1) (k := th) (z := tw_cz z 0 0) X dJ5_putStringAt_47b60_12 (Or.inl ⟨_, dw_w1290⟩) dw_in17 rfl (by decide) (by decide) (fun h => dw_E17 h) rfl ?_
  refine dw_ckp (by exact ⟨Nat.le_of_ble_eq_true rfl, Nat.le_of_ble_eq_true rfl⟩) (e_callVT (w := w1) (c := 0) (s := 0) (As := [.ref (b + r22), .int x0, .int (dw_i r21 th 1)]) (z := tw_cz z 0 0) X hA hb hD ⟨rfl, rfl⟩ ⟨eMC, eMS⟩ dJ5_putStringAt_47b60_15 (fun Q h => dw_m_J0_getBytes_840e7c hD hw1 h) dw_y_J0_getBytes_840e7 dw_v_J0_getBytes_840e7 hw1 _ dw_w1390 rfl ⟨tw_le hfr rfl, tw_le hlo rfl⟩ (Nat.le_of_ble_eq_true rfl) rfl (fun r23 => ?_))
  show dw_Rf (tw_cz z 0 0) b _ r23 _ [(0, .ref (b + th)), (1, .int x0), (2, .ref (tw_zS z w1))] []
  exact dw_ckp (by exact ⟨Nat.le_of_ble_eq_true rfl, Nat.le_of_ble_eq_true rfl⟩) (e_vret (z := z) X eB dJ5_putStringAt_47b60_18 hret ⟨eMC, eMS⟩ hQ rfl rfl)
def dw_P_J5_append_cf1ce (th : Nat) (w0 : Nat) (Y : dw_S) (Q : Nat × dw_S → Prop) : Prop :=
pw_lt (Int32.ofNat (tw_len.getD w0 0)) (fun (v21 : Int32) =>
pw_ck (dw_is (dw_cs Y (dw_s Y)) th 17) (
pw_ck (dw_is (dw_cs Y (dw_s Y)) th 17) (
dw_P_J5_ensureCapacityInternal_d00df th ((dw_i (dw_cs Y (dw_s Y)) th 3) + v21) (dw_cs Y (dw_s Y)) (fun (r22 : dw_S) =>
pw_ck (dw_is r22 th 17) (
pw_ck (dw_is r22 th 17) (
dw_P_J5_putStringAt_47b60 th (dw_i r22 th 3) w0 r22 (fun (r23 : dw_S) =>
pw_ck (dw_is r23 th 17) (
pw_ck (dw_is r23 th 17) (pw_lt (dw_pi r23 th 3 ((dw_i r23 th 3) + v21)) (fun (Y24 : dw_S) =>
Q (th, Y24)))))))))))
theorem dw_y_J5_append_cf1ce : tw_My yJ5_append_cf1ce cJ5_append_cf1ce 3 (some (.object "java/lang/AbstractStringBuilder")) 1 := ⟨List.mem_of_getElem? dw_w1309, List.mem_of_getElem? dw_w64, by decide +kernel, by decide +kernel, by decide +kernel⟩
theorem dw_v_J5_append_cf1ce : Cond.instanceMethod yJ5_append_cf1ce ∈ lw_tbl ∧ True := ⟨List.mem_of_getElem? dw_w1308, trivial⟩
set_option maxRecDepth 100000 in
set_option maxHeartbeats 4000000 in
theorem dw_m_J5_append_cf1ce {l : Launch} {b : Nat} {D : tw_G} {C : Nat → ClassId} {S : Nat → Nat} (hD : D.2 = []) {th : Nat} {w0 : Nat} {Y : dw_S} {Q : Nat × dw_S → Prop} (hw0 : w0 < 33) (h : dw_P_J5_append_cf1ce th w0 Y Q) : dw_Met l b D C S yJ5_append_cf1ce cJ5_append_cf1ce 3 (some (.object "java/lang/AbstractStringBuilder")) ({ frames := 8, cells := 0, slots := 0, locals := 163 } : Room) [.ref (b + th), .ref (S w0)] Y (fun r => some (.ref (b + r.1))) (fun r => r.2) Q := by
  refine dw_metOf (dw_P_J5_append_cf1ce th w0 Y Q) h _ _ Q (by decide +kernel) (Nat.le_of_ble_eq_true rfl) ?_
  intro z el eB eD eC eS eR X hA hnm hret hQ
  subst el eD eC eS
  have hb : tw_zB z ≤ b := Nat.le_of_eq eB
  have hA : dw_AK (tw_zB z) (tw_zS z) (tw_zs z) := by rw [eB]; exact hA
  have hfr : (tw_zR z).frames = 8 := by rw [eR]
  have hlo : (tw_zR z).locals = 163 := by rw [eR]
  have eMC : (tw_zR z).cells = 0 := by rw [eR]
  have eMS : (tw_zR z).slots = 0 := by rw [eR]
  have X : tw_X z cJ5_append_cf1ce "java/lang/AbstractStringBuilder" 3 := X
  show dw_Rf (tw_cz z 0 0) b _ Y 0 [(0, .ref (b + th)), (1, .ref (tw_zS z w0))] []
  unfold dw_P_J5_append_cf1ce
  refine e_aload_n (z := tw_cz z 0 0) X dJ5_append_cf1ce_0 rfl 1 rfl ?_
  refine e_ifnonnullC (z := tw_cz z 0 0) X dJ5_append_cf1ce_1 (tgt := 9) (by decide) ?_
  refine e_aload_n (z := tw_cz z 0 0) X dJ5_append_cf1ce_9 rfl 1 rfl ?_
  refine dw_ckp (by exact ⟨Nat.le_of_ble_eq_true rfl, Nat.le_of_ble_eq_true rfl⟩) (dw_bdu (e_clT (w := w0) (e := (some () : Option Unit)) (rv := fun _ => (some (.int (Int32.ofNat (tw_len.getD w0 0))))) (σ' := fun _ => dw_s Y) (As := []) (z := tw_cz z 0 0) X hb ⟨rfl, rfl⟩ ⟨eMC, eMS⟩ dJ5_append_cf1ce_10 (fun _ _ => tw_m_J0_length_8abf5 hw0) tw_y_J0_length_8abf5 tw_v_J0_length_8abf5 hw0 _ dw_w1361 rfl ⟨rfl, rfl, tw_le hfr rfl, tw_le hlo rfl⟩ (Nat.le_of_ble_eq_true rfl) rfl (fun _ => ?_)))
  show dw_Rf (tw_cz z 0 0) b _ (dw_cs Y (dw_s Y)) _ [(0, .ref (b + th)), (1, .ref (tw_zS z w0))] [.int (Int32.ofNat (tw_len.getD w0 0))]
  refine e_istore_n (z := tw_cz z 0 0) X dJ5_append_cf1ce_13 rfl (by decide) (LL := fun v21 => [(2, .int v21), (0, .ref (b + th)), (1, .ref (tw_zS z w0))]) (fun _ => rfl) (fun v21 => ?_)
  refine e_aload_n (z := tw_cz z 0 0) X dJ5_append_cf1ce_14 rfl 1 rfl ?_
  refine e_aload_n (z := tw_cz z 0 0) X dJ5_append_cf1ce_15 rfl 1 rfl ?_
  refine e_getf (ci := 17) (T := TJ4) (f := 3) (k := th) (z := tw_cz z 0 0) X dJ5_append_cf1ce_16 (Or.inl ⟨_, dw_w1292⟩) dw_in17 rfl (by decide) (by decide) (fun h => dw_E17 h) rfl ?_
  refine e_iload_n (z := tw_cz z 0 0) X dJ5_append_cf1ce_19 rfl 0 rfl ?_
  refine e_iadd (z := tw_cz z 0 0) X dJ5_append_cf1ce_20 ?_
  refine dw_ckq (by exact ⟨Nat.le_of_ble_eq_true rfl, Nat.le_of_ble_eq_true rfl⟩) (e_callVP (k := th) (ci := 17) (Cn := "java/lang/StringBuilder") (T := TJ4) (N := 4) (c := 0) (s := 0) (As := [.int ((dw_i (dw_cs Y (dw_s Y)) th 3) + v21)]) (z := tw_cz z 0 0) X hA hb hD ⟨rfl, rfl⟩ ⟨eMC, eMS⟩ dJ5_append_cf1ce_21 (fun Q h => dw_m_J5_ensureCapacityInternal_d00df hD h) dw_y_J5_ensureCapacityInternal_d00df dw_v_J5_ensureCapacityInternal_d00df.1 (fun _ => hA.2.2.2.2.2.2.2.use 0 rfl) _ dw_w1314 (by decide) rfl (fun h => dw_E17 h) rfl ⟨tw_le hfr rfl, tw_le hlo rfl⟩ (Nat.le_of_ble_eq_true rfl) rfl (fun r22 => ?_))
  show dw_Rf (tw_cz z 0 0) b _ r22 _ [(2, .int v21), (0, .ref (b + th)), (1, .ref (tw_zS z w0))] []
  refine e_aload_n (z := tw_cz z 0 0) X dJ5_append_cf1ce_24 rfl 1 rfl ?_
  refine e_aload_n (z := tw_cz z 0 0) X dJ5_append_cf1ce_25 rfl 1 rfl ?_
  refine e_getf (ci := 17) (T := TJ4) (f := 3) (k := th) (z := tw_cz z 0 0) X dJ5_append_cf1ce_26 (Or.inl ⟨_, dw_w1292⟩) dw_in17 rfl (by decide) (by decide) (fun h => dw_E17 h) rfl ?_
  refine e_aload_n (z := tw_cz z 0 0) X dJ5_append_cf1ce_29 rfl 2 rfl ?_
  refine dw_ckq (by exact ⟨Nat.le_of_ble_eq_true rfl, Nat.le_of_ble_eq_true rfl⟩) (e_callVP (k := th) (ci := 17) (Cn := "java/lang/StringBuilder") (T := TJ4) (N := 4) (c := 0) (s := 0) (As := [.int (dw_i r22 th 3), .ref (tw_zS z w0)]) (z := tw_cz z 0 0) X hA hb hD ⟨rfl, rfl⟩ ⟨eMC, eMS⟩ dJ5_append_cf1ce_30 (fun Q h => dw_m_J5_putStringAt_47b60 hD hw0 h) dw_y_J5_putStringAt_47b60 dw_v_J5_putStringAt_47b60.1 (fun _ => hA.2.2.2.2.2.2.2.use 2 rfl) _ dw_w1362 (by decide) rfl (fun h => dw_E17 h) rfl ⟨tw_le hfr rfl, tw_le hlo rfl⟩ (Nat.le_of_ble_eq_true rfl) rfl (fun r23 => ?_))
  show dw_Rf (tw_cz z 0 0) b _ r23 _ [(2, .int v21), (0, .ref (b + th)), (1, .ref (tw_zS z w0))] []
  refine e_aload_n (z := tw_cz z 0 0) X dJ5_append_cf1ce_33 rfl 1 rfl ?_
  refine e_dup (z := tw_cz z 0 0) X dJ5_append_cf1ce_34 rfl ?_
  refine e_getf (ci := 17) (T := TJ4) (f := 3) (k := th) (z := tw_cz z 0 0) X dJ5_append_cf1ce_35 (Or.inl ⟨_, dw_w1292⟩) dw_in17 rfl (by decide) (by decide) (fun h => dw_E17 h) rfl ?_
  refine e_iload_n (z := tw_cz z 0 0) X dJ5_append_cf1ce_38 rfl 0 rfl ?_
  refine e_iadd (z := tw_cz z 0 0) X dJ5_append_cf1ce_39 ?_
  show dw_Rf (tw_cz z 0 0) b _ r23 _ [(2, .int v21), (0, .ref (b + th)), (1, .ref (tw_zS z w0))] (.int ((dw_i r23 th 3) + v21) :: .ref (b + th) :: [])
  refine e_put (ci := 17) (T := TJ4) (f := 3) (ty := .int) (k := th) (z := tw_cz z 0 0) X hb dJ5_append_cf1ce_40 (Or.inl ⟨_, dw_w1292⟩) dw_in17 tyJ4 tyJ4_ok nmJ4 rfl (by decide) rfl (by decide +kernel) rfl rfl (by decide) (fun h => dw_F17 h) (Nat.le_of_ble_eq_true rfl) (fun h => dw_p17_3 h) rfl rfl rfl (fun a ha => dw_E_pi ha) (fun Y24 => ?_)
  refine e_aload_n (z := tw_cz z 0 0) X dJ5_append_cf1ce_43 rfl 1 rfl ?_
  exact dw_ckp (by exact ⟨Nat.le_of_ble_eq_true rfl, Nat.le_of_ble_eq_true rfl⟩) (e_aret (z := z) X eB dJ5_append_cf1ce_44 hret (Or.inl ⟨_, rfl⟩) (Or.inr ⟨_, rfl⟩) ⟨eMC, eMS⟩ hQ rfl rfl)
def dw_P_J4_append_15ec4 (th : Nat) (w0 : Nat) (Y : dw_S) (Q : Nat × dw_S → Prop) : Prop :=
pw_ck (dw_is Y th 17) (
dw_P_J5_append_cf1ce th w0 Y (fun (r21 : Nat × dw_S) =>
Q (th, r21.2)))
theorem dw_y_J4_append_15ec4 : tw_My yJ4_append_15ec4 cJ4_append_15ec4 2 (some (.object "java/lang/StringBuilder")) 1 := ⟨List.mem_of_getElem? dw_w1306, List.mem_of_getElem? dw_w65, by decide +kernel, by decide +kernel, by decide +kernel⟩
theorem dw_v_J4_append_15ec4 : dw_Mv yJ4_append_15ec4 "java/lang/StringBuilder" := ⟨List.mem_of_getElem? dw_w1304, List.mem_of_getElem? dw_w1305⟩
set_option maxRecDepth 100000 in
set_option maxHeartbeats 4000000 in
theorem dw_m_J4_append_15ec4 {l : Launch} {b : Nat} {D : tw_G} {C : Nat → ClassId} {S : Nat → Nat} (hD : D.2 = []) {th : Nat} {w0 : Nat} {Y : dw_S} {Q : Nat × dw_S → Prop} (hw0 : w0 < 33) (h : dw_P_J4_append_15ec4 th w0 Y Q) : dw_Met l b D C S yJ4_append_15ec4 cJ4_append_15ec4 2 (some (.object "java/lang/StringBuilder")) ({ frames := 9, cells := 0, slots := 0, locals := 185 } : Room) [.ref (b + th), .ref (S w0)] Y (fun r => some (.ref (b + r.1))) (fun r => r.2) Q := by
  refine dw_metOf (dw_P_J4_append_15ec4 th w0 Y Q) h _ _ Q (by decide +kernel) (Nat.le_of_ble_eq_true rfl) ?_
  intro z el eB eD eC eS eR X hA hnm hret hQ
  subst el eD eC eS
  have hb : tw_zB z ≤ b := Nat.le_of_eq eB
  have hA : dw_AK (tw_zB z) (tw_zS z) (tw_zs z) := by rw [eB]; exact hA
  have hfr : (tw_zR z).frames = 9 := by rw [eR]
  have hlo : (tw_zR z).locals = 185 := by rw [eR]
  have eMC : (tw_zR z).cells = 0 := by rw [eR]
  have eMS : (tw_zR z).slots = 0 := by rw [eR]
  have X : tw_X z cJ4_append_15ec4 "java/lang/StringBuilder" 2 := X
  show dw_Rf (tw_cz z 0 0) b _ Y 0 [(0, .ref (b + th)), (1, .ref (tw_zS z w0))] []
  unfold dw_P_J4_append_15ec4
  refine e_aload_n (z := tw_cz z 0 0) X dJ4_append_15ec4_0 rfl 0 rfl ?_
  refine e_aload_n (z := tw_cz z 0 0) X dJ4_append_15ec4_1 rfl 1 rfl ?_
  refine dw_ckq (by exact ⟨Nat.le_of_ble_eq_true rfl, Nat.le_of_ble_eq_true rfl⟩) (e_callU (k := th) (ci := 17) (Cn := "java/lang/StringBuilder") (T := TJ4) (N := 4) (c := 0) (s := 0) (As := [.ref (tw_zS z w0)]) (z := tw_cz z 0 0) X hA hb hD ⟨rfl, rfl⟩ ⟨eMC, eMS⟩ dJ4_append_15ec4_2 (fun Q h => dw_m_J5_append_cf1ce hD hw0 h) dw_y_J5_append_cf1ce dw_v_J5_append_cf1ce.1 (List.mem_of_getElem? dw_w1626) (List.mem_of_getElem? dw_w1301) (by decide) _ dw_w1307 (by decide) rfl (fun h => dw_E17 h) rfl ⟨tw_le hfr rfl, tw_le hlo rfl⟩ (Nat.le_of_ble_eq_true rfl) rfl (fun r21 => ?_))
  show dw_Rf (tw_cz z 0 0) b _ r21.2 _ [(0, .ref (b + th)), (1, .ref (tw_zS z w0))] [.ref (b + r21.1)]
  refine e_pop (z := tw_cz z 0 0) X dJ4_append_15ec4_5 rfl ?_
  refine e_aload_n (z := tw_cz z 0 0) X dJ4_append_15ec4_6 rfl 0 rfl ?_
  exact dw_ckp (by exact ⟨Nat.le_of_ble_eq_true rfl, Nat.le_of_ble_eq_true rfl⟩) (e_aret (z := z) X eB dJ4_append_15ec4_7 hret (Or.inl ⟨_, rfl⟩) (Or.inr ⟨_, rfl⟩) ⟨eMC, eMS⟩ hQ rfl rfl)
def dw_P_J5_init_d00df (th : Nat) (x0 : Int32) (Y : dw_S) (Q : dw_S → Prop) : Prop :=
tw_jn (fun (a21 : dw_S × Nat × Nat) =>
pw_ck (a21.2.1 ≤ 1 ∧ a21.2.2 ≤ 16) (Q a21.1)) (fun (j22 : (dw_S × Nat × Nat) → Prop) =>
pw_ck ((¬ x0 < 0 ∧ (Int32.toNatClampNeg x0) ≤ 10000) ∧ 1 ≤ 1 ∧ (0 + (Int32.toNatClampNeg x0)) ≤ 16) (
pw_al (dw_n Y) (fun (q23 : Nat) => pw_lt (dw_nw Y q23 22 (Int32.toNatClampNeg x0) (fun _ => 0) (fun _ => none)) (fun (Y24 : dw_S) =>
pw_ck (dw_is Y24 th 17) (pw_lt (dw_pr Y24 th 0 (some q23)) (fun (Y25 : dw_S) =>
pw_ck (dw_is Y25 th 17) (pw_lt (dw_pi Y25 th 1 (0 : Int32)) (fun (Y26 : dw_S) =>
j22 (Y26, 1, (0 + (Int32.toNatClampNeg x0)))))))))))
theorem dw_y_J5_init_d00df : tw_My yJ5_init_d00df cJ5_init_d00df 2 none 1 := ⟨List.mem_of_getElem? dw_w1279, List.mem_of_getElem? dw_w64, by decide +kernel, by decide +kernel, by decide +kernel⟩
theorem dw_v_J5_init_d00df : Cond.instanceMethod yJ5_init_d00df ∈ lw_tbl := List.mem_of_getElem? dw_w1278
set_option maxRecDepth 100000 in
set_option maxHeartbeats 4000000 in
theorem dw_m_J5_init_d00df {l : Launch} {b : Nat} {D : tw_G} {C : Nat → ClassId} {S : Nat → Nat} (hD : D.2 = []) {th : Nat} {x0 : Int32} {Y : dw_S} {Q : dw_S → Prop}  (h : dw_P_J5_init_d00df th x0 Y Q) : dw_Met l b D C S yJ5_init_d00df cJ5_init_d00df 2 none ({ frames := 1, cells := 1, slots := 16, locals := 20 } : Room) [.ref (b + th), .int x0] Y (fun _ => none) (fun r => r) Q := by
  refine dw_metOf (dw_P_J5_init_d00df th x0 Y Q) h _ _ Q (by decide +kernel) (Nat.le_of_ble_eq_true rfl) ?_
  intro z el eB eD eC eS eR X hA hnm hret hQ
  subst el eD eC eS
  have hb : tw_zB z ≤ b := Nat.le_of_eq eB
  have hA : dw_AK (tw_zB z) (tw_zS z) (tw_zs z) := by rw [eB]; exact hA
  have hfr : (tw_zR z).frames = 1 := by rw [eR]
  have hlo : (tw_zR z).locals = 20 := by rw [eR]
  have eMC : (tw_zR z).cells = 1 := by rw [eR]
  have eMS : (tw_zR z).slots = 16 := by rw [eR]
  have X : tw_X z cJ5_init_d00df "java/lang/AbstractStringBuilder" 2 := X
  show dw_Rf (tw_cz z 0 0) b _ Y 0 [(0, .ref (b + th)), (1, .int x0)] []
  unfold dw_P_J5_init_d00df
  refine e_aload_n (z := tw_cz z 0 0) X dJ5_init_d00df_0 rfl 0 rfl ?_
  refine e_obj (z := tw_cz z 0 0) X dJ5_init_d00df_1 _ dw_w1280 (List.mem_of_getElem? dw_w76) (List.mem_of_getElem? dw_w77) (tw_le hfr rfl) (tw_le hlo rfl) (Nat.le_of_ble_eq_true rfl) ?_
  refine e_scom (z := tw_cz z 0 0) X dJ5_init_d00df_4 dw_w1281 ?_
  refine e_jn (α := dw_S × Nat × Nat) (zJ := fun a21 => tw_cz z a21.2.1 a21.2.2) (YJ := fun a21 => a21.1) (pcJ := 38) (LJ := fun a21 => []) (stJ := fun a21 => []) (fun a21 => ?_) (fun j22 hj22 => ?_)
  ·
    exact e_vret (z := z) X eB dJ5_init_d00df_38 hret ⟨eMC, eMS⟩ hQ rfl rfl
  refine dw_Rf.eq (E' := if (1 : Int32) = 0 then False else _) (fun h => by rw [if_neg (by decide)]; exact h) ?_
  refine e_if_eq (z := tw_cz z 0 0) X dJ5_init_d00df_7 (tgt := 25) (by decide) (fun h => h.elim) ?_
  refine e_aload_n (z := tw_cz z 0 0) X dJ5_init_d00df_10 rfl 0 rfl ?_
  refine e_iload_n (z := tw_cz z 0 0) X dJ5_init_d00df_11 rfl 1 rfl ?_
  refine e_newb (c := 0) (s := 0) (z := tw_cz z 0 0) X ⟨rfl, rfl⟩ ⟨eMC, eMS⟩ dJ5_init_d00df_12 hA.1.2.2 (fun q23 Y24 => ?_)
  show dw_Rf (tw_cz z 1 (0 + (Int32.toNatClampNeg x0))) b _ Y24 _ [(0, .ref (b + th)), (1, .int x0)] [.ref (b + q23), .ref (b + th)]
  show dw_Rf (tw_cz z 1 (0 + (Int32.toNatClampNeg x0))) b _ Y24 _ [(0, .ref (b + th)), (1, .int x0)] (dw_v b (some q23) :: .ref (b + th) :: [])
  refine e_put (ci := 17) (T := TJ4) (f := 0) (ty := .array .byte) (k := th) (z := tw_cz z 1 (0 + (Int32.toNatClampNeg x0))) X hb dJ5_init_d00df_14 (Or.inl ⟨_, dw_w1289⟩) dw_in17 tyJ4 tyJ4_ok nmJ4 rfl (by decide) rfl (by decide +kernel) dw_narrow dw_fitsA (by decide) (fun h => dw_F17 h) (Nat.le_of_ble_eq_true rfl) (fun h => dw_p17_0 h) rfl rfl rfl (fun a ha => dw_E_pr ha) (fun Y25 => ?_)
  refine e_aload_n (z := tw_cz z 1 (0 + (Int32.toNatClampNeg x0))) X dJ5_init_d00df_17 rfl 0 rfl ?_
  refine e_iconst (z := tw_cz z 1 (0 + (Int32.toNatClampNeg x0))) X dJ5_init_d00df_18 (v := (0 : Int32)) (by decide) ?_
  show dw_Rf (tw_cz z 1 (0 + (Int32.toNatClampNeg x0))) b _ Y25 _ [(0, .ref (b + th)), (1, .int x0)] (.int (0 : Int32) :: .ref (b + th) :: [])
  refine e_put (ci := 17) (T := TJ4) (f := 1) (ty := .byte) (k := th) (z := tw_cz z 1 (0 + (Int32.toNatClampNeg x0))) X hb dJ5_init_d00df_19 (Or.inl ⟨_, dw_w1290⟩) dw_in17 tyJ4 tyJ4_ok nmJ4 rfl (by decide) rfl (by decide +kernel) (by decide) (by decide) (by decide) (fun h => dw_F17 h) (Nat.le_of_ble_eq_true rfl) (fun h => dw_p17_1 h) rfl rfl rfl (fun a ha => dw_E_pi ha) (fun Y26 => ?_)
  refine e_goto (z := tw_cz z 1 (0 + (Int32.toNatClampNeg x0))) X dJ5_init_d00df_22 (tgt := 38) (by decide) ?_
  exact dw_Rf.sub [] rfl (hj22 (Y26, 1, (0 + (Int32.toNatClampNeg x0))))
def dw_P_J4_init_da8c8 (th : Nat) (Y : dw_S) (Q : dw_S → Prop) : Prop :=
dw_P_J5_init_d00df th (16 : Int32) Y (fun (r21 : dw_S) =>
Q r21)
theorem dw_y_J4_init_da8c8 : tw_My yJ4_init_da8c8 cJ4_init_da8c8 1 none 0 := ⟨List.mem_of_getElem? dw_w1276, List.mem_of_getElem? dw_w65, by decide +kernel, by decide +kernel, by decide +kernel⟩
theorem dw_v_J4_init_da8c8 : Cond.instanceMethod yJ4_init_da8c8 ∈ lw_tbl := List.mem_of_getElem? dw_w1275
set_option maxRecDepth 100000 in
set_option maxHeartbeats 4000000 in
theorem dw_m_J4_init_da8c8 {l : Launch} {b : Nat} {D : tw_G} {C : Nat → ClassId} {S : Nat → Nat} (hD : D.2 = []) {th : Nat} {Y : dw_S} {Q : dw_S → Prop}  (h : dw_P_J4_init_da8c8 th Y Q) : dw_Met l b D C S yJ4_init_da8c8 cJ4_init_da8c8 1 none ({ frames := 2, cells := 1, slots := 16, locals := 41 } : Room) [.ref (b + th)] Y (fun _ => none) (fun r => r) Q := by
  refine dw_metOf (dw_P_J4_init_da8c8 th Y Q) h _ _ Q (by decide +kernel) (Nat.le_of_ble_eq_true rfl) ?_
  intro z el eB eD eC eS eR X hA hnm hret hQ
  subst el eD eC eS
  have hb : tw_zB z ≤ b := Nat.le_of_eq eB
  have hA : dw_AK (tw_zB z) (tw_zS z) (tw_zs z) := by rw [eB]; exact hA
  have hfr : (tw_zR z).frames = 2 := by rw [eR]
  have hlo : (tw_zR z).locals = 41 := by rw [eR]
  have eMC : (tw_zR z).cells = 1 := by rw [eR]
  have eMS : (tw_zR z).slots = 16 := by rw [eR]
  have X : tw_X z cJ4_init_da8c8 "java/lang/StringBuilder" 1 := X
  show dw_Rf (tw_cz z 0 0) b _ Y 0 [(0, .ref (b + th))] []
  unfold dw_P_J4_init_da8c8
  refine e_aload_n (z := tw_cz z 0 0) X dJ4_init_da8c8_0 rfl 0 rfl ?_
  refine e_bipush (z := tw_cz z 0 0) X dJ4_init_da8c8_1 (v := (16 : Int32)) (by decide) ?_
  refine dw_ckp (by exact ⟨Nat.le_of_ble_eq_true rfl, Nat.le_of_ble_eq_true rfl⟩) (e_callI (c := 0) (s := 0) (As := [.int (16 : Int32)]) (z := tw_cz z 0 0) X hA hb hD ⟨rfl, rfl⟩ ⟨eMC, eMS⟩ dJ4_init_da8c8_3 (fun Q h => dw_m_J5_init_d00df hD h) dw_y_J5_init_d00df dw_v_J5_init_d00df rfl _ dw_w1277 rfl ⟨tw_le hfr rfl, tw_le hlo rfl⟩ (Nat.le_of_ble_eq_true rfl) rfl (fun r21 => ?_))
  show dw_Rf (tw_cz z 1 16) b _ r21 _ [(0, .ref (b + th))] []
  exact dw_ckp (by exact ⟨Nat.le_of_ble_eq_true rfl, Nat.le_of_ble_eq_true rfl⟩) (e_vret (z := z) X eB dJ4_init_da8c8_6 hret ⟨eMC, eMS⟩ hQ rfl rfl)
