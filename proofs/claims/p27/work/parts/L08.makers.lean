theorem dw_w35 : lw_tbl[35]? = some ((Jvm.Cond.initialized "TreasureWalkLaw")) := by decide +kernel
theorem dw_w49 : lw_tbl[49]? = some ((Jvm.Cond.initialized "TreasureWalkLaw$Random")) := by decide +kernel
theorem dw_w67 : lw_tbl[67]? = some ((Jvm.Cond.initialized "TreasureWalkLaw$Clue")) := by decide +kernel
theorem dw_w76 : lw_tbl[76]? = some ((Jvm.Cond.instanceMethod ({ cls := "java/lang/Object", name := "<init>", desc := "()V" } : Jvm.MethodName))) := by decide +kernel
theorem dw_w77 : lw_tbl[77]? = some ((Jvm.Cond.code ({ cls := "java/lang/Object", name := "<init>", desc := "()V" } : Jvm.MethodName) object_method_1_code (1 : Nat) (Option.none : Option Jvm.ClassFile.FieldType))) := by decide +kernel
theorem dw_w581 : lw_tbl[581]? = some ((Jvm.Cond.instantiable "TreasureWalkLaw$Island" (13 : Nat))) := by decide +kernel
theorem dw_w583 : lw_tbl[583]? = some ((Jvm.Cond.instanceMethod ({ cls := "TreasureWalkLaw$Island", name := "<init>", desc := "()V" } : Jvm.MethodName))) := by decide +kernel
theorem dw_w584 : lw_tbl[584]? = some ((Jvm.Cond.code ({ cls := "TreasureWalkLaw$Island", name := "<init>", desc := "()V" } : Jvm.MethodName) prog_15_method_1_code (1 : Nat) (Option.none : Option Jvm.ClassFile.FieldType))) := by decide +kernel
theorem dw_w585 : lw_tbl[585]? = some ((Jvm.Cond.methodLink "TreasureWalkLaw$Island" (1 : Nat) ({ cls := "java/lang/Object", name := "<init>", desc := "()V" } : Jvm.MethodName))) := by decide +kernel
theorem dw_w588 : lw_tbl[588]? = some ((Jvm.Cond.classLink "TreasureWalkLaw$Island" (32 : Nat) "TreasureWalkLaw$Clue")) := by decide +kernel
theorem dw_w643 : lw_tbl[643]? = some ((Jvm.Cond.instanceMethod ({ cls := "TreasureWalkLaw$Island", name := "copy", desc := "()LTreasureWalkLaw$Island;" } : Jvm.MethodName))) := by decide +kernel
theorem dw_w644 : lw_tbl[644]? = some ((Jvm.Cond.selects "TreasureWalkLaw$Island" ({ cls := "TreasureWalkLaw$Island", name := "copy", desc := "()LTreasureWalkLaw$Island;" } : Jvm.MethodName) ({ cls := "TreasureWalkLaw$Island", name := "copy", desc := "()LTreasureWalkLaw$Island;" } : Jvm.MethodName))) := by decide +kernel
theorem dw_w645 : lw_tbl[645]? = some ((Jvm.Cond.code ({ cls := "TreasureWalkLaw$Island", name := "copy", desc := "()LTreasureWalkLaw$Island;" } : Jvm.MethodName) prog_15_method_2_code (4 : Nat) (Option.some (Jvm.ClassFile.FieldType.object "TreasureWalkLaw$Island")))) := by decide +kernel
theorem dw_w646 : lw_tbl[646]? = some ((Jvm.Cond.classLink "TreasureWalkLaw$Island" (8 : Nat) "TreasureWalkLaw$Island")) := by decide +kernel
theorem dw_w647 : lw_tbl[647]? = some ((Jvm.Cond.methodLink "TreasureWalkLaw$Island" (41 : Nat) ({ cls := "TreasureWalkLaw$Island", name := "<init>", desc := "()V" } : Jvm.MethodName))) := by decide +kernel
theorem dw_w648 : lw_tbl[648]? = some ((Jvm.Cond.methodLink "TreasureWalkLaw$Island" (42 : Nat) ({ cls := "[Z", name := "clone", desc := "()Ljava/lang/Object;" } : Jvm.MethodName))) := by decide +kernel
theorem dw_w649 : lw_tbl[649]? = some ((Jvm.Cond.sameMethod "[Z" "java/lang/Object" "clone" "()Ljava/lang/Object;")) := by decide +kernel
theorem dw_w652 : lw_tbl[652]? = some ((Jvm.Cond.selects "[Z" ({ cls := "[Z", name := "clone", desc := "()Ljava/lang/Object;" } : Jvm.MethodName) ({ cls := "java/lang/Object", name := "clone", desc := "()Ljava/lang/Object;" } : Jvm.MethodName))) := by decide +kernel
theorem dw_w654 : lw_tbl[654]? = some ((Jvm.Cond.classLink "TreasureWalkLaw$Island" (43 : Nat) "[Z")) := by decide +kernel
theorem dw_w659 : lw_tbl[659]? = some ((Jvm.Cond.instantiable "TreasureWalkLaw$Clue" (3 : Nat))) := by decide +kernel
theorem dw_w660 : lw_tbl[660]? = some ((Jvm.Cond.methodLinkNest "TreasureWalkLaw$Island" (48 : Nat) ({ cls := "TreasureWalkLaw$Clue", name := "<init>", desc := "()V" } : Jvm.MethodName) "TreasureWalkLaw")) := by decide +kernel
theorem dw_w661 : lw_tbl[661]? = some ((Jvm.Cond.instanceMethod ({ cls := "TreasureWalkLaw$Clue", name := "<init>", desc := "()V" } : Jvm.MethodName))) := by decide +kernel
theorem dw_w662 : lw_tbl[662]? = some ((Jvm.Cond.code ({ cls := "TreasureWalkLaw$Clue", name := "<init>", desc := "()V" } : Jvm.MethodName) prog_14_method_1_code (1 : Nat) (Option.none : Option Jvm.ClassFile.FieldType))) := by decide +kernel
theorem dw_w663 : lw_tbl[663]? = some ((Jvm.Cond.methodLink "TreasureWalkLaw$Clue" (1 : Nat) ({ cls := "java/lang/Object", name := "<init>", desc := "()V" } : Jvm.MethodName))) := by decide +kernel
theorem dw_w664 : lw_tbl[664]? = some ((Jvm.Cond.classLink "TreasureWalkLaw$Clue" (13 : Nat) "TreasureWalkLaw$Leg")) := by decide +kernel
theorem dw_w666 : lw_tbl[666]? = some ((Jvm.Cond.fieldLink "TreasureWalkLaw$Clue" (7 : Nat) "TreasureWalkLaw$Clue" "starts" "[I")) := by decide +kernel
theorem dw_w669 : lw_tbl[669]? = some ((Jvm.Cond.fieldLink "TreasureWalkLaw$Clue" (15 : Nat) "TreasureWalkLaw$Clue" "legs" "[LTreasureWalkLaw$Leg;")) := by decide +kernel
theorem dw_w672 : lw_tbl[672]? = some ((Jvm.Cond.fieldLink "TreasureWalkLaw$Clue" (19 : Nat) "TreasureWalkLaw$Clue" "isUsed" "Z")) := by decide +kernel
theorem dw_w739 : lw_tbl[739]? = some ((Jvm.Cond.fieldLink "TreasureWalkLaw$Random" (7 : Nat) "TreasureWalkLaw$Random" "seed" "I")) := by decide +kernel
theorem dw_w744 : lw_tbl[744]? = some ((Jvm.Cond.instanceMethod ({ cls := "TreasureWalkLaw$Random", name := "below", desc := "(I)I" } : Jvm.MethodName))) := by decide +kernel
theorem dw_w745 : lw_tbl[745]? = some ((Jvm.Cond.selects "TreasureWalkLaw$Random" ({ cls := "TreasureWalkLaw$Random", name := "below", desc := "(I)I" } : Jvm.MethodName) ({ cls := "TreasureWalkLaw$Random", name := "below", desc := "(I)I" } : Jvm.MethodName))) := by decide +kernel
theorem dw_w746 : lw_tbl[746]? = some ((Jvm.Cond.code ({ cls := "TreasureWalkLaw$Random", name := "below", desc := "(I)I" } : Jvm.MethodName) prog_17_method_2_code (2 : Nat) (Option.some Jvm.ClassFile.FieldType.int))) := by decide +kernel
theorem dw_w747 : lw_tbl[747]? = some ((Jvm.Cond.constant "TreasureWalkLaw$Random" (13 : Nat) (1103515245 : Int32))) := by decide +kernel
theorem dw_w1506 : lw_tbl[1506]? = some ((Jvm.Cond.static ({ cls := "TreasureWalkLaw", name := "with", desc := "([II)[I" } : Jvm.MethodName))) := by decide +kernel
theorem dw_w1507 : lw_tbl[1507]? = some ((Jvm.Cond.code ({ cls := "TreasureWalkLaw", name := "with", desc := "([II)[I" } : Jvm.MethodName) method_22_code (4 : Nat) (Option.some (Jvm.ClassFile.FieldType.array Jvm.ClassFile.FieldType.int)))) := by decide +kernel
def dw_P_X15_below (th : Nat) (x0 : Int32) (Y : dw_S) (Q : Int32 × dw_S → Prop) : Prop :=
pw_ck (dw_is Y th 15) (
pw_ck (dw_is Y th 15) (pw_lt (dw_pi Y th 0 (((1103515245 : Int32) * (dw_i Y th 0)) + (12345 : Int32))) (fun (Y1 : dw_S) =>
pw_ck (dw_is Y1 th 15) (
pw_ck (¬ x0 = 0) (
Q ((((Int32.toUInt32 (dw_i Y1 th 0) >>> (Int32.toUInt32 (16 : Int32) &&& Int32.toUInt32 31)).toInt32) - ((Int32.toUInt32 (dw_i Y1 th 0) >>> (Int32.toUInt32 (16 : Int32) &&& Int32.toUInt32 31)).toInt32) / x0 * x0), Y1))))))
theorem dw_y_X15_below : tw_My yX15_below cX15_below 2 (some .int) 1 := ⟨List.mem_of_getElem? dw_w746, List.mem_of_getElem? dw_w49, by decide +kernel, by decide +kernel, by decide +kernel⟩
theorem dw_v_X15_below : dw_Mv yX15_below "TreasureWalkLaw$Random" := ⟨List.mem_of_getElem? dw_w744, List.mem_of_getElem? dw_w745⟩
set_option maxRecDepth 100000 in
set_option maxHeartbeats 4000000 in
theorem dw_m_X15_below {l : Launch} {b : Nat} {D : tw_G} {C : Nat → ClassId} {S : Nat → Nat} (hD : D.2 = []) {th : Nat} {x0 : Int32} {Y : dw_S} {Q : Int32 × dw_S → Prop}  (h : dw_P_X15_below th x0 Y Q) : dw_Met l b D C S yX15_below cX15_below 2 (some .int) ({ frames := 0, cells := 0, slots := 0, locals := 0 } : Room) [.ref (b + th), .int x0] Y (fun r => some (.int r.1)) (fun r => r.2) Q := by
  refine dw_metOf (dw_P_X15_below th x0 Y Q) h _ _ Q (by decide +kernel) (Nat.le_of_ble_eq_true rfl) ?_
  intro z el eB eD eC eS eR X hA hnm hret hQ
  subst el eD eC eS
  have hb : tw_zB z ≤ b := Nat.le_of_eq eB
  have hA : dw_AK (tw_zB z) (tw_zS z) (tw_zs z) := by rw [eB]; exact hA
  have hfr : (tw_zR z).frames = 0 := by rw [eR]
  have hlo : (tw_zR z).locals = 0 := by rw [eR]
  have eMC : (tw_zR z).cells = 0 := by rw [eR]
  have eMS : (tw_zR z).slots = 0 := by rw [eR]
  have X : tw_X z cX15_below "TreasureWalkLaw$Random" 2 := X
  show dw_Rf (tw_cz z 0 0) b _ Y 0 [(0, .ref (b + th)), (1, .int x0)] []
  unfold dw_P_X15_below
  refine e_aload_n (z := tw_cz z 0 0) X dX15_below_0 rfl 0 rfl ?_
  refine e_ldcI (z := tw_cz z 0 0) X dX15_below_1 (v := (1103515245 : Int32)) _ dw_w747 ?_
  refine e_aload_n (z := tw_cz z 0 0) X dX15_below_3 rfl 0 rfl ?_
  refine e_getf (ci := 15) (T := TX15) (f := 0) (k := th) (z := tw_cz z 0 0) X dX15_below_4 (Or.inl ⟨_, dw_w739⟩) dw_in15 rfl (by decide) (by decide) (fun h => dw_E15 h) rfl ?_
  refine e_imul (z := tw_cz z 0 0) X dX15_below_7 ?_
  refine e_sipush (z := tw_cz z 0 0) X dX15_below_8 (v := (12345 : Int32)) (by decide) ?_
  refine e_iadd (z := tw_cz z 0 0) X dX15_below_11 ?_
  show dw_Rf (tw_cz z 0 0) b _ Y _ [(0, .ref (b + th)), (1, .int x0)] (.int (((1103515245 : Int32) * (dw_i Y th 0)) + (12345 : Int32)) :: .ref (b + th) :: [])
  refine e_put (ci := 15) (T := TX15) (f := 0) (ty := .int) (k := th) (z := tw_cz z 0 0) X hb dX15_below_12 (Or.inl ⟨_, dw_w739⟩) dw_in15 tyX15 tyX15_ok nmX15 rfl (by decide) rfl (by decide +kernel) rfl rfl (by decide) (fun h => dw_F15 h) (Nat.le_of_ble_eq_true rfl) (fun h => dw_p15_0 h) rfl rfl rfl (fun a ha => dw_E_pi ha) (fun Y1 => ?_)
  refine e_aload_n (z := tw_cz z 0 0) X dX15_below_15 rfl 0 rfl ?_
  refine e_getf (ci := 15) (T := TX15) (f := 0) (k := th) (z := tw_cz z 0 0) X dX15_below_16 (Or.inl ⟨_, dw_w739⟩) dw_in15 rfl (by decide) (by decide) (fun h => dw_E15 h) rfl ?_
  refine e_bipush (z := tw_cz z 0 0) X dX15_below_19 (v := (16 : Int32)) (by decide) ?_
  refine e_iushr (z := tw_cz z 0 0) X dX15_below_21 ?_
  refine e_iload_n (z := tw_cz z 0 0) X dX15_below_22 rfl 1 rfl ?_
  refine e_irem (z := tw_cz z 0 0) X dX15_below_23 ?_
  exact dw_ckp (by exact ⟨Nat.le_of_ble_eq_true rfl, Nat.le_of_ble_eq_true rfl⟩) (e_iret (z := z) X eB dX15_below_24 hret ⟨eMC, eMS⟩ hQ rfl rfl)
def dw_P_X13_init (th : Nat) (Y : dw_S) (Q : dw_S → Prop) : Prop :=
pw_ck (dw_is Y th 13) (pw_lt (dw_pi Y th 0 (1 : Int32)) (fun (Y1 : dw_S) =>
pw_ck (dw_is Y1 th 13) (pw_lt (dw_pi Y1 th 1 (1 : Int32)) (fun (Y2 : dw_S) =>
pw_al (dw_n Y2) (fun (q3 : Nat) => pw_lt (dw_nw Y2 q3 21 (Int32.toNatClampNeg (1 : Int32)) (fun _ => 0) (fun _ => none)) (fun (Y4 : dw_S) =>
pw_ck (dw_is Y4 th 13) (pw_lt (dw_pr Y4 th 2 (some q3)) (fun (Y5 : dw_S) =>
pw_al (dw_n Y5) (fun (q6 : Nat) => pw_lt (dw_nw Y5 q6 21 (Int32.toNatClampNeg (1 : Int32)) (fun _ => 0) (fun _ => none)) (fun (Y7 : dw_S) =>
pw_ck (dw_is Y7 th 13) (pw_lt (dw_pr Y7 th 3 (some q6)) (fun (Y8 : dw_S) =>
pw_al (dw_n Y8) (fun (q9 : Nat) => pw_lt (dw_nw Y8 q9 20 (Int32.toNatClampNeg (8 : Int32)) (fun _ => 0) (fun _ => none)) (fun (Y10 : dw_S) =>
pw_ck (dw_is Y10 q9 20 ∧ tw_ok (0 : Int32) (dw_l Y10 q9) = true) (pw_lt (dw_pi Y10 q9 (Int32.toNatClampNeg (0 : Int32)) (-1 : Int32)) (fun (Y11 : dw_S) =>
pw_ck (dw_is Y11 q9 20 ∧ tw_ok (1 : Int32) (dw_l Y11 q9) = true) (pw_lt (dw_pi Y11 q9 (Int32.toNatClampNeg (1 : Int32)) (-1 : Int32)) (fun (Y12 : dw_S) =>
pw_ck (dw_is Y12 q9 20 ∧ tw_ok (2 : Int32) (dw_l Y12 q9) = true) (pw_lt (dw_pi Y12 q9 (Int32.toNatClampNeg (2 : Int32)) (-1 : Int32)) (fun (Y13 : dw_S) =>
pw_ck (dw_is Y13 q9 20 ∧ tw_ok (3 : Int32) (dw_l Y13 q9) = true) (pw_lt (dw_pi Y13 q9 (Int32.toNatClampNeg (3 : Int32)) (-1 : Int32)) (fun (Y14 : dw_S) =>
pw_ck (dw_is Y14 q9 20 ∧ tw_ok (4 : Int32) (dw_l Y14 q9) = true) (pw_lt (dw_pi Y14 q9 (Int32.toNatClampNeg (4 : Int32)) (-1 : Int32)) (fun (Y15 : dw_S) =>
pw_ck (dw_is Y15 q9 20 ∧ tw_ok (5 : Int32) (dw_l Y15 q9) = true) (pw_lt (dw_pi Y15 q9 (Int32.toNatClampNeg (5 : Int32)) (-1 : Int32)) (fun (Y16 : dw_S) =>
pw_ck (dw_is Y16 q9 20 ∧ tw_ok (6 : Int32) (dw_l Y16 q9) = true) (pw_lt (dw_pi Y16 q9 (Int32.toNatClampNeg (6 : Int32)) (-1 : Int32)) (fun (Y17 : dw_S) =>
pw_ck (dw_is Y17 q9 20 ∧ tw_ok (7 : Int32) (dw_l Y17 q9) = true) (pw_lt (dw_pi Y17 q9 (Int32.toNatClampNeg (7 : Int32)) (-1 : Int32)) (fun (Y18 : dw_S) =>
pw_ck (dw_is Y18 th 13) (pw_lt (dw_pr Y18 th 4 (some q9)) (fun (Y19 : dw_S) =>
pw_al (dw_n Y19) (fun (q20 : Nat) => pw_lt (dw_nw Y19 q20 26 (Int32.toNatClampNeg (0 : Int32)) (fun _ => 0) (fun _ => none)) (fun (Y21 : dw_S) =>
pw_ck (dw_is Y21 th 13) (pw_lt (dw_pr Y21 th 5 (some q20)) (fun (Y22 : dw_S) =>
pw_al (dw_n Y22) (fun (q23 : Nat) => pw_lt (dw_nw Y22 q23 24 (Int32.toNatClampNeg (0 : Int32)) (fun _ => 0) (fun _ => none)) (fun (Y24 : dw_S) =>
pw_ck (dw_is Y24 th 13) (pw_lt (dw_pr Y24 th 6 (some q23)) (fun (Y25 : dw_S) =>
pw_al (dw_n Y25) (fun (q26 : Nat) => pw_lt (dw_nw Y25 q26 20 (Int32.toNatClampNeg (9 : Int32)) (fun _ => 0) (fun _ => none)) (fun (Y27 : dw_S) =>
pw_ck (dw_is Y27 th 13) (pw_lt (dw_pr Y27 th 12 (some q26)) (fun (Y28 : dw_S) =>
Q Y28))))))))))))))))))))))))))))))))))))))))))))
theorem dw_y_X13_init : tw_My yX13_init cX13_init 1 none 0 := ⟨List.mem_of_getElem? dw_w584, List.mem_of_getElem? dw_w50, by decide +kernel, by decide +kernel, by decide +kernel⟩
theorem dw_v_X13_init : Cond.instanceMethod yX13_init ∈ lw_tbl := List.mem_of_getElem? dw_w583
set_option maxRecDepth 100000 in
set_option maxHeartbeats 4000000 in
theorem dw_m_X13_init {l : Launch} {b : Nat} {D : tw_G} {C : Nat → ClassId} {S : Nat → Nat} (hD : D.2 = []) {th : Nat} {Y : dw_S} {Q : dw_S → Prop}  (h : dw_P_X13_init th Y Q) : dw_Met l b D C S yX13_init cX13_init 1 none ({ frames := 1, cells := 6, slots := 19, locals := 20 } : Room) [.ref (b + th)] Y (fun _ => none) (fun r => r) Q := by
  refine dw_metOf (dw_P_X13_init th Y Q) h _ _ Q (by decide +kernel) (Nat.le_of_ble_eq_true rfl) ?_
  intro z el eB eD eC eS eR X hA hnm hret hQ
  subst el eD eC eS
  have hb : tw_zB z ≤ b := Nat.le_of_eq eB
  have hA : dw_AK (tw_zB z) (tw_zS z) (tw_zs z) := by rw [eB]; exact hA
  have hfr : (tw_zR z).frames = 1 := by rw [eR]
  have hlo : (tw_zR z).locals = 20 := by rw [eR]
  have eMC : (tw_zR z).cells = 6 := by rw [eR]
  have eMS : (tw_zR z).slots = 19 := by rw [eR]
  have X : tw_X z cX13_init "TreasureWalkLaw$Island" 1 := X
  show dw_Rf (tw_cz z 0 0) b _ Y 0 [(0, .ref (b + th))] []
  unfold dw_P_X13_init
  refine e_aload_n (z := tw_cz z 0 0) X dX13_init_0 rfl 0 rfl ?_
  refine e_obj (z := tw_cz z 0 0) X dX13_init_1 _ dw_w585 (List.mem_of_getElem? dw_w76) (List.mem_of_getElem? dw_w77) (tw_le hfr rfl) (tw_le hlo rfl) (Nat.le_of_ble_eq_true rfl) ?_
  refine e_aload_n (z := tw_cz z 0 0) X dX13_init_4 rfl 0 rfl ?_
  refine e_iconst (z := tw_cz z 0 0) X dX13_init_5 (v := (1 : Int32)) (by decide) ?_
  show dw_Rf (tw_cz z 0 0) b _ Y _ [(0, .ref (b + th))] (.int (1 : Int32) :: .ref (b + th) :: [])
  refine e_put (ci := 13) (T := TX13) (f := 0) (ty := .int) (k := th) (z := tw_cz z 0 0) X hb dX13_init_6 (Or.inl ⟨_, dw_w590⟩) dw_in13 tyX13 tyX13_ok nmX13 rfl (by decide) rfl (by decide +kernel) rfl rfl (by decide) (fun h => dw_F13 h) (Nat.le_of_ble_eq_true rfl) (fun h => dw_p13_0 h) rfl rfl rfl (fun a ha => dw_E_pi ha) (fun Y1 => ?_)
  refine e_aload_n (z := tw_cz z 0 0) X dX13_init_9 rfl 0 rfl ?_
  refine e_iconst (z := tw_cz z 0 0) X dX13_init_10 (v := (1 : Int32)) (by decide) ?_
  show dw_Rf (tw_cz z 0 0) b _ Y1 _ [(0, .ref (b + th))] (.int (1 : Int32) :: .ref (b + th) :: [])
  refine e_put (ci := 13) (T := TX13) (f := 1) (ty := .int) (k := th) (z := tw_cz z 0 0) X hb dX13_init_11 (Or.inl ⟨_, dw_w592⟩) dw_in13 tyX13 tyX13_ok nmX13 rfl (by decide) rfl (by decide +kernel) rfl rfl (by decide) (fun h => dw_F13 h) (Nat.le_of_ble_eq_true rfl) (fun h => dw_p13_1 h) rfl rfl rfl (fun a ha => dw_E_pi ha) (fun Y2 => ?_)
  refine e_aload_n (z := tw_cz z 0 0) X dX13_init_14 rfl 0 rfl ?_
  refine e_iconst (z := tw_cz z 0 0) X dX13_init_15 (v := (1 : Int32)) (by decide) ?_
  refine dw_ckp (by exact ⟨⟨by decide, by decide⟩, ⟨Nat.le_of_ble_eq_true rfl, Nat.le_of_ble_eq_true rfl⟩⟩) (e_newz (c := 0) (s := 0) (z := tw_cz z 0 0) X ⟨rfl, rfl⟩ ⟨eMC, eMS⟩ dX13_init_16 hA.1.2.1 (fun q3 Y4 => ?_))
  show dw_Rf (tw_cz z 1 1) b _ Y4 _ [(0, .ref (b + th))] [.ref (b + q3), .ref (b + th)]
  show dw_Rf (tw_cz z 1 1) b _ Y4 _ [(0, .ref (b + th))] (dw_v b (some q3) :: .ref (b + th) :: [])
  refine e_put (ci := 13) (T := TX13) (f := 2) (ty := .array .boolean) (k := th) (z := tw_cz z 1 1) X hb dX13_init_18 (Or.inl ⟨_, dw_w594⟩) dw_in13 tyX13 tyX13_ok nmX13 rfl (by decide) rfl (by decide +kernel) dw_narrow dw_fitsA (by decide) (fun h => dw_F13 h) (Nat.le_of_ble_eq_true rfl) (fun h => dw_p13_2 h) rfl rfl rfl (fun a ha => dw_E_pr ha) (fun Y5 => ?_)
  refine e_aload_n (z := tw_cz z 1 1) X dX13_init_21 rfl 0 rfl ?_
  refine e_iconst (z := tw_cz z 1 1) X dX13_init_22 (v := (1 : Int32)) (by decide) ?_
  refine dw_ckp (by exact ⟨⟨by decide, by decide⟩, ⟨Nat.le_of_ble_eq_true rfl, Nat.le_of_ble_eq_true rfl⟩⟩) (e_newz (c := 1) (s := 1) (z := tw_cz z 1 1) X ⟨rfl, rfl⟩ ⟨eMC, eMS⟩ dX13_init_23 hA.1.2.1 (fun q6 Y7 => ?_))
  show dw_Rf (tw_cz z 2 2) b _ Y7 _ [(0, .ref (b + th))] [.ref (b + q6), .ref (b + th)]
  show dw_Rf (tw_cz z 2 2) b _ Y7 _ [(0, .ref (b + th))] (dw_v b (some q6) :: .ref (b + th) :: [])
  refine e_put (ci := 13) (T := TX13) (f := 3) (ty := .array .boolean) (k := th) (z := tw_cz z 2 2) X hb dX13_init_25 (Or.inl ⟨_, dw_w596⟩) dw_in13 tyX13 tyX13_ok nmX13 rfl (by decide) rfl (by decide +kernel) dw_narrow dw_fitsA (by decide) (fun h => dw_F13 h) (Nat.le_of_ble_eq_true rfl) (fun h => dw_p13_3 h) rfl rfl rfl (fun a ha => dw_E_pr ha) (fun Y8 => ?_)
  refine e_aload_n (z := tw_cz z 2 2) X dX13_init_28 rfl 0 rfl ?_
  refine e_bipush (z := tw_cz z 2 2) X dX13_init_29 (v := (8 : Int32)) (by decide) ?_
  refine dw_ckp (by exact ⟨⟨by decide, by decide⟩, ⟨Nat.le_of_ble_eq_true rfl, Nat.le_of_ble_eq_true rfl⟩⟩) (e_newi (c := 2) (s := 2) (z := tw_cz z 2 2) X ⟨rfl, rfl⟩ ⟨eMC, eMS⟩ dX13_init_31 hA.1.1 (fun q9 Y10 => ?_))
  show dw_Rf (tw_cz z 3 10) b _ Y10 _ [(0, .ref (b + th))] [.ref (b + q9), .ref (b + th)]
  refine e_dup (z := tw_cz z 3 10) X dX13_init_33 rfl ?_
  refine e_iconst (z := tw_cz z 3 10) X dX13_init_34 (v := (0 : Int32)) (by decide) ?_
  refine e_iconst (z := tw_cz z 3 10) X dX13_init_35 (v := (-1 : Int32)) (by decide) ?_
  refine e_iast (k := q9) (z := tw_cz z 3 10) X hb dX13_init_36 (fun Y11 => ?_)
  refine e_dup (z := tw_cz z 3 10) X dX13_init_37 rfl ?_
  refine e_iconst (z := tw_cz z 3 10) X dX13_init_38 (v := (1 : Int32)) (by decide) ?_
  refine e_iconst (z := tw_cz z 3 10) X dX13_init_39 (v := (-1 : Int32)) (by decide) ?_
  refine e_iast (k := q9) (z := tw_cz z 3 10) X hb dX13_init_40 (fun Y12 => ?_)
  refine e_dup (z := tw_cz z 3 10) X dX13_init_41 rfl ?_
  refine e_iconst (z := tw_cz z 3 10) X dX13_init_42 (v := (2 : Int32)) (by decide) ?_
  refine e_iconst (z := tw_cz z 3 10) X dX13_init_43 (v := (-1 : Int32)) (by decide) ?_
  refine e_iast (k := q9) (z := tw_cz z 3 10) X hb dX13_init_44 (fun Y13 => ?_)
  refine e_dup (z := tw_cz z 3 10) X dX13_init_45 rfl ?_
  refine e_iconst (z := tw_cz z 3 10) X dX13_init_46 (v := (3 : Int32)) (by decide) ?_
  refine e_iconst (z := tw_cz z 3 10) X dX13_init_47 (v := (-1 : Int32)) (by decide) ?_
  refine e_iast (k := q9) (z := tw_cz z 3 10) X hb dX13_init_48 (fun Y14 => ?_)
  refine e_dup (z := tw_cz z 3 10) X dX13_init_49 rfl ?_
  refine e_iconst (z := tw_cz z 3 10) X dX13_init_50 (v := (4 : Int32)) (by decide) ?_
  refine e_iconst (z := tw_cz z 3 10) X dX13_init_51 (v := (-1 : Int32)) (by decide) ?_
  refine e_iast (k := q9) (z := tw_cz z 3 10) X hb dX13_init_52 (fun Y15 => ?_)
  refine e_dup (z := tw_cz z 3 10) X dX13_init_53 rfl ?_
  refine e_iconst (z := tw_cz z 3 10) X dX13_init_54 (v := (5 : Int32)) (by decide) ?_
  refine e_iconst (z := tw_cz z 3 10) X dX13_init_55 (v := (-1 : Int32)) (by decide) ?_
  refine e_iast (k := q9) (z := tw_cz z 3 10) X hb dX13_init_56 (fun Y16 => ?_)
  refine e_dup (z := tw_cz z 3 10) X dX13_init_57 rfl ?_
  refine e_bipush (z := tw_cz z 3 10) X dX13_init_58 (v := (6 : Int32)) (by decide) ?_
  refine e_iconst (z := tw_cz z 3 10) X dX13_init_60 (v := (-1 : Int32)) (by decide) ?_
  refine e_iast (k := q9) (z := tw_cz z 3 10) X hb dX13_init_61 (fun Y17 => ?_)
  refine e_dup (z := tw_cz z 3 10) X dX13_init_62 rfl ?_
  refine e_bipush (z := tw_cz z 3 10) X dX13_init_63 (v := (7 : Int32)) (by decide) ?_
  refine e_iconst (z := tw_cz z 3 10) X dX13_init_65 (v := (-1 : Int32)) (by decide) ?_
  refine e_iast (k := q9) (z := tw_cz z 3 10) X hb dX13_init_66 (fun Y18 => ?_)
  show dw_Rf (tw_cz z 3 10) b _ Y18 _ [(0, .ref (b + th))] (dw_v b (some q9) :: .ref (b + th) :: [])
  refine e_put (ci := 13) (T := TX13) (f := 4) (ty := .array .int) (k := th) (z := tw_cz z 3 10) X hb dX13_init_67 (Or.inl ⟨_, dw_w598⟩) dw_in13 tyX13 tyX13_ok nmX13 rfl (by decide) rfl (by decide +kernel) dw_narrow dw_fitsA (by decide) (fun h => dw_F13 h) (Nat.le_of_ble_eq_true rfl) (fun h => dw_p13_4 h) rfl rfl rfl (fun a ha => dw_E_pr ha) (fun Y19 => ?_)
  refine e_aload_n (z := tw_cz z 3 10) X dX13_init_70 rfl 0 rfl ?_
  refine e_iconst (z := tw_cz z 3 10) X dX13_init_71 (v := (0 : Int32)) (by decide) ?_
  refine dw_ckp (by exact ⟨⟨by decide, by decide⟩, ⟨Nat.le_of_ble_eq_true rfl, Nat.le_of_ble_eq_true rfl⟩⟩) (e_newA (c := 3) (s := 10) (z := tw_cz z 3 10) X ⟨rfl, rfl⟩ ⟨eMC, eMS⟩ dX13_init_72 _ dw_w586 hA.2.2.1.2 (fun q20 Y21 => ?_))
  show dw_Rf (tw_cz z 4 10) b _ Y21 _ [(0, .ref (b + th))] [.ref (b + q20), .ref (b + th)]
  show dw_Rf (tw_cz z 4 10) b _ Y21 _ [(0, .ref (b + th))] (dw_v b (some q20) :: .ref (b + th) :: [])
  refine e_put (ci := 13) (T := TX13) (f := 5) (ty := .array (.array .int)) (k := th) (z := tw_cz z 4 10) X hb dX13_init_75 (Or.inl ⟨_, dw_w600⟩) dw_in13 tyX13 tyX13_ok nmX13 rfl (by decide) rfl (by decide +kernel) dw_narrow dw_fitsA (by decide) (fun h => dw_F13 h) (Nat.le_of_ble_eq_true rfl) (fun h => dw_p13_5 h) rfl rfl rfl (fun a ha => dw_E_pr ha) (fun Y22 => ?_)
  refine e_aload_n (z := tw_cz z 4 10) X dX13_init_78 rfl 0 rfl ?_
  refine e_iconst (z := tw_cz z 4 10) X dX13_init_79 (v := (0 : Int32)) (by decide) ?_
  refine dw_ckp (by exact ⟨⟨by decide, by decide⟩, ⟨Nat.le_of_ble_eq_true rfl, Nat.le_of_ble_eq_true rfl⟩⟩) (e_newq (t0 := 7) (kd := 24) (c := 4) (s := 10) (z := tw_cz z 4 10) X ⟨rfl, rfl⟩ ⟨eMC, eMS⟩ dX13_init_80 _ dw_w588 hA.2.1.2.1 rfl (by decide) (fun Y k h => dw_E24 h) (fun q23 Y24 => ?_))
  show dw_Rf (tw_cz z 5 10) b _ Y24 _ [(0, .ref (b + th))] [.ref (b + q23), .ref (b + th)]
  show dw_Rf (tw_cz z 5 10) b _ Y24 _ [(0, .ref (b + th))] (dw_v b (some q23) :: .ref (b + th) :: [])
  refine e_put (ci := 13) (T := TX13) (f := 6) (ty := .array (.object "TreasureWalkLaw$Clue")) (k := th) (z := tw_cz z 5 10) X hb dX13_init_83 (Or.inl ⟨_, dw_w602⟩) dw_in13 tyX13 tyX13_ok nmX13 rfl (by decide) rfl (by decide +kernel) dw_narrow dw_fitsA (by decide) (fun h => dw_F13 h) (Nat.le_of_ble_eq_true rfl) (fun h => dw_p13_6 h) rfl rfl rfl (fun a ha => dw_E_pr ha) (fun Y25 => ?_)
  refine e_aload_n (z := tw_cz z 5 10) X dX13_init_86 rfl 0 rfl ?_
  refine e_bipush (z := tw_cz z 5 10) X dX13_init_87 (v := (9 : Int32)) (by decide) ?_
  refine dw_ckp (by exact ⟨⟨by decide, by decide⟩, ⟨Nat.le_of_ble_eq_true rfl, Nat.le_of_ble_eq_true rfl⟩⟩) (e_newi (c := 5) (s := 10) (z := tw_cz z 5 10) X ⟨rfl, rfl⟩ ⟨eMC, eMS⟩ dX13_init_89 hA.1.1 (fun q26 Y27 => ?_))
  show dw_Rf (tw_cz z 6 19) b _ Y27 _ [(0, .ref (b + th))] [.ref (b + q26), .ref (b + th)]
  show dw_Rf (tw_cz z 6 19) b _ Y27 _ [(0, .ref (b + th))] (dw_v b (some q26) :: .ref (b + th) :: [])
  refine e_putF (ci := 13) (T := TX13) (f := 12) (ty := .array .int) (k := th) (z := tw_cz z 6 19) X hb hnm dX13_init_91 _ dw_w613 dw_in13 tyX13 tyX13_ok nmX13 rfl (by decide) rfl rfl (by decide +kernel) dw_narrow dw_fitsA (by decide) (fun h => dw_F13 h) (Nat.le_of_ble_eq_true rfl) (fun h => dw_p13_12 h) rfl rfl rfl (fun a ha => dw_E_pr ha) (fun Y28 => ?_)
  exact dw_ckp (by exact ⟨Nat.le_of_ble_eq_true rfl, Nat.le_of_ble_eq_true rfl⟩) (e_vret (z := z) X eB dX13_init_94 hret ⟨eMC, eMS⟩ hQ rfl rfl)
def dw_P_X12_init (th : Nat) (Y : dw_S) (Q : dw_S → Prop) : Prop :=
pw_al (dw_n Y) (fun (q1 : Nat) => pw_lt (dw_nw Y q1 20 (Int32.toNatClampNeg (0 : Int32)) (fun _ => 0) (fun _ => none)) (fun (Y2 : dw_S) =>
pw_ck (dw_is Y2 th 12) (pw_lt (dw_pr Y2 th 0 (some q1)) (fun (Y3 : dw_S) =>
pw_al (dw_n Y3) (fun (q4 : Nat) => pw_lt (dw_nw Y3 q4 23 (Int32.toNatClampNeg (0 : Int32)) (fun _ => 0) (fun _ => none)) (fun (Y5 : dw_S) =>
pw_ck (dw_is Y5 th 12) (pw_lt (dw_pr Y5 th 1 (some q4)) (fun (Y6 : dw_S) =>
pw_ck (dw_is Y6 th 12) (pw_lt (dw_pi Y6 th 2 (1 : Int32)) (fun (Y7 : dw_S) =>
Q Y7))))))))))
theorem dw_y_X12_init : tw_My yX12_init cX12_init 1 none 0 := ⟨List.mem_of_getElem? dw_w662, List.mem_of_getElem? dw_w67, by decide +kernel, by decide +kernel, by decide +kernel⟩
theorem dw_v_X12_init : Cond.instanceMethod yX12_init ∈ lw_tbl := List.mem_of_getElem? dw_w661
set_option maxRecDepth 100000 in
set_option maxHeartbeats 4000000 in
theorem dw_m_X12_init {l : Launch} {b : Nat} {D : tw_G} {C : Nat → ClassId} {S : Nat → Nat} (hD : D.2 = []) {th : Nat} {Y : dw_S} {Q : dw_S → Prop}  (h : dw_P_X12_init th Y Q) : dw_Met l b D C S yX12_init cX12_init 1 none ({ frames := 1, cells := 2, slots := 0, locals := 20 } : Room) [.ref (b + th)] Y (fun _ => none) (fun r => r) Q := by
  refine dw_metOf (dw_P_X12_init th Y Q) h _ _ Q (by decide +kernel) (Nat.le_of_ble_eq_true rfl) ?_
  intro z el eB eD eC eS eR X hA hnm hret hQ
  subst el eD eC eS
  have hb : tw_zB z ≤ b := Nat.le_of_eq eB
  have hA : dw_AK (tw_zB z) (tw_zS z) (tw_zs z) := by rw [eB]; exact hA
  have hfr : (tw_zR z).frames = 1 := by rw [eR]
  have hlo : (tw_zR z).locals = 20 := by rw [eR]
  have eMC : (tw_zR z).cells = 2 := by rw [eR]
  have eMS : (tw_zR z).slots = 0 := by rw [eR]
  have X : tw_X z cX12_init "TreasureWalkLaw$Clue" 1 := X
  show dw_Rf (tw_cz z 0 0) b _ Y 0 [(0, .ref (b + th))] []
  unfold dw_P_X12_init
  refine e_aload_n (z := tw_cz z 0 0) X dX12_init_0 rfl 0 rfl ?_
  refine e_obj (z := tw_cz z 0 0) X dX12_init_1 _ dw_w663 (List.mem_of_getElem? dw_w76) (List.mem_of_getElem? dw_w77) (tw_le hfr rfl) (tw_le hlo rfl) (Nat.le_of_ble_eq_true rfl) ?_
  refine e_aload_n (z := tw_cz z 0 0) X dX12_init_4 rfl 0 rfl ?_
  refine e_iconst (z := tw_cz z 0 0) X dX12_init_5 (v := (0 : Int32)) (by decide) ?_
  refine dw_ckp (by exact ⟨⟨by decide, by decide⟩, ⟨Nat.le_of_ble_eq_true rfl, Nat.le_of_ble_eq_true rfl⟩⟩) (e_newi (c := 0) (s := 0) (z := tw_cz z 0 0) X ⟨rfl, rfl⟩ ⟨eMC, eMS⟩ dX12_init_6 hA.1.1 (fun q1 Y2 => ?_))
  show dw_Rf (tw_cz z 1 0) b _ Y2 _ [(0, .ref (b + th))] [.ref (b + q1), .ref (b + th)]
  show dw_Rf (tw_cz z 1 0) b _ Y2 _ [(0, .ref (b + th))] (dw_v b (some q1) :: .ref (b + th) :: [])
  refine e_put (ci := 12) (T := TX12) (f := 0) (ty := .array .int) (k := th) (z := tw_cz z 1 0) X hb dX12_init_8 (Or.inl ⟨_, dw_w666⟩) dw_in12 tyX12 tyX12_ok nmX12 rfl (by decide) rfl (by decide +kernel) dw_narrow dw_fitsA (by decide) (fun h => dw_F12 h) (Nat.le_of_ble_eq_true rfl) (fun h => dw_p12_0 h) rfl rfl rfl (fun a ha => dw_E_pr ha) (fun Y3 => ?_)
  refine e_aload_n (z := tw_cz z 1 0) X dX12_init_11 rfl 0 rfl ?_
  refine e_iconst (z := tw_cz z 1 0) X dX12_init_12 (v := (0 : Int32)) (by decide) ?_
  refine dw_ckp (by exact ⟨⟨by decide, by decide⟩, ⟨Nat.le_of_ble_eq_true rfl, Nat.le_of_ble_eq_true rfl⟩⟩) (e_newq (t0 := 6) (kd := 23) (c := 1) (s := 0) (z := tw_cz z 1 0) X ⟨rfl, rfl⟩ ⟨eMC, eMS⟩ dX12_init_13 _ dw_w664 hA.2.1.1 rfl (by decide) (fun Y k h => dw_E23 h) (fun q4 Y5 => ?_))
  show dw_Rf (tw_cz z 2 0) b _ Y5 _ [(0, .ref (b + th))] [.ref (b + q4), .ref (b + th)]
  show dw_Rf (tw_cz z 2 0) b _ Y5 _ [(0, .ref (b + th))] (dw_v b (some q4) :: .ref (b + th) :: [])
  refine e_put (ci := 12) (T := TX12) (f := 1) (ty := .array (.object "TreasureWalkLaw$Leg")) (k := th) (z := tw_cz z 2 0) X hb dX12_init_16 (Or.inl ⟨_, dw_w669⟩) dw_in12 tyX12 tyX12_ok nmX12 rfl (by decide) rfl (by decide +kernel) dw_narrow dw_fitsA (by decide) (fun h => dw_F12 h) (Nat.le_of_ble_eq_true rfl) (fun h => dw_p12_1 h) rfl rfl rfl (fun a ha => dw_E_pr ha) (fun Y6 => ?_)
  refine e_aload_n (z := tw_cz z 2 0) X dX12_init_19 rfl 0 rfl ?_
  refine e_iconst (z := tw_cz z 2 0) X dX12_init_20 (v := (1 : Int32)) (by decide) ?_
  show dw_Rf (tw_cz z 2 0) b _ Y6 _ [(0, .ref (b + th))] (.int (1 : Int32) :: .ref (b + th) :: [])
  refine e_put (ci := 12) (T := TX12) (f := 2) (ty := .boolean) (k := th) (z := tw_cz z 2 0) X hb dX12_init_21 (Or.inl ⟨_, dw_w672⟩) dw_in12 tyX12 tyX12_ok nmX12 rfl (by decide) rfl (by decide +kernel) (by decide) (by decide) (by decide) (fun h => dw_F12 h) (Nat.le_of_ble_eq_true rfl) (fun h => dw_p12_2 h) rfl rfl rfl (fun a ha => dw_E_pi ha) (fun Y7 => ?_)
  exact dw_ckp (by exact ⟨Nat.le_of_ble_eq_true rfl, Nat.le_of_ble_eq_true rfl⟩) (e_vret (z := z) X eB dX12_init_24 hret ⟨eMC, eMS⟩ hQ rfl rfl)
def dw_P_X13_copy (n : Nat) (th : Nat) (Y : dw_S) (Q : Nat × dw_S → Prop) : Prop :=
pw_al (dw_n Y) (fun (q1 : Nat) => pw_lt (dw_nw Y q1 13 0 (fun _ => 0) (fun _ => none)) (fun (Y2 : dw_S) =>
dw_P_X13_init q1 Y2 (fun (r3 : dw_S) =>
pw_ck (dw_is r3 th 13) (
pw_ck (dw_is r3 q1 13) (pw_lt (dw_pi r3 q1 0 (dw_i r3 th 0)) (fun (Y4 : dw_S) =>
pw_ck (dw_is Y4 th 13) (
pw_ck (dw_is Y4 q1 13) (pw_lt (dw_pi Y4 q1 1 (dw_i Y4 th 1)) (fun (Y5 : dw_S) =>
pw_ck (dw_is Y5 th 13) (
pw_nn (dw_r Y5 th 2) (fun (r6 : Nat) =>
pw_ck (dw_is Y5 q1 13) (pw_lt (dw_pr Y5 q1 2 (some r6)) (fun (Y7 : dw_S) =>
pw_ck (dw_is Y7 th 13) (
pw_nn (dw_r Y7 th 3) (fun (r8 : Nat) =>
pw_ck ((dw_is Y7 r8 21 ∧ ∀ i, i < (dw_l Y7 r8) → fits .boolean (.int (dw_i Y7 r8 i)) = true) ∧ 8 ≤ 21 ∧ (32 + (dw_l Y7 r8)) ≤ 86) (pw_al (dw_n Y7) (fun (q9 : Nat) => pw_lt (dw_nw Y7 q9 21 (dw_l Y7 r8) (dw_i Y7 r8) (fun _ => none)) (fun (Y10 : dw_S) =>
pw_ck (dw_is Y10 q9 21) (
pw_ck (dw_is Y10 q1 13) (pw_lt (dw_pr Y10 q1 3 (some q9)) (fun (Y11 : dw_S) =>
pw_ck (dw_is Y11 th 13) (
pw_nn (dw_r Y11 th 4) (fun (r12 : Nat) =>
pw_ck (dw_is Y11 q1 13) (pw_lt (dw_pr Y11 q1 4 (some r12)) (fun (Y13 : dw_S) =>
pw_ck (dw_is Y13 th 13) (
pw_nn (dw_r Y13 th 5) (fun (r14 : Nat) =>
pw_ck (dw_is Y13 r14 26) (
pw_ck ((¬ (Int32.ofNat (dw_l Y13 r14)) < 0 ∧ (Int32.toNatClampNeg (Int32.ofNat (dw_l Y13 r14))) ≤ 10000) ∧ 9 ≤ 21 ∧ ((32 + (dw_l Y7 r8)) + (Int32.toNatClampNeg (Int32.ofNat (dw_l Y13 r14)))) ≤ 86) (
pw_al (dw_n Y13) (fun (q15 : Nat) => pw_lt (dw_nw Y13 q15 26 (Int32.toNatClampNeg (Int32.ofNat (dw_l Y13 r14))) (fun _ => 0) (fun _ => none)) (fun (Y16 : dw_S) =>
pw_ck (dw_is Y16 q1 13) (pw_lt (dw_pr Y16 q1 5 (some q15)) (fun (Y17 : dw_S) =>
pw_lt (0 : Int32) (fun (v18 : Int32) =>
pw_lp (fun (k20 : (Int32 × dw_S × Nat × Nat) → Prop) (a19 : Int32 × dw_S × Nat × Nat) =>
pw_ck (dw_is a19.2.1 th 13) (
pw_nn (dw_r a19.2.1 th 5) (fun (r21 : Nat) =>
pw_ck (dw_is a19.2.1 r21 26) (
if (Int32.ofNat (dw_l a19.2.1 r21)) ≤ a19.1 then (pw_ck (dw_is a19.2.1 th 13) (
pw_nn (dw_r a19.2.1 th 6) (fun (r22 : Nat) =>
pw_ck (dw_is a19.2.1 r22 24) (
pw_ck ((¬ (Int32.ofNat (dw_l a19.2.1 r22)) < 0 ∧ (Int32.toNatClampNeg (Int32.ofNat (dw_l a19.2.1 r22))) ≤ 10000) ∧ (a19.2.2.1 + 1) ≤ 21 ∧ (a19.2.2.2 + (Int32.toNatClampNeg (Int32.ofNat (dw_l a19.2.1 r22)))) ≤ 86) (
pw_al (dw_n a19.2.1) (fun (q23 : Nat) => pw_lt (dw_nw a19.2.1 q23 24 (Int32.toNatClampNeg (Int32.ofNat (dw_l a19.2.1 r22))) (fun _ => 0) (fun _ => none)) (fun (Y24 : dw_S) =>
pw_ck (dw_is Y24 q1 13) (pw_lt (dw_pr Y24 q1 6 (some q23)) (fun (Y25 : dw_S) =>
pw_lt (0 : Int32) (fun (v26 : Int32) =>
pw_lp (fun (k28 : (Int32 × dw_S × Nat × Nat) → Prop) (a27 : Int32 × dw_S × Nat × Nat) =>
pw_ck (dw_is a27.2.1 th 13) (
pw_nn (dw_r a27.2.1 th 6) (fun (r29 : Nat) =>
pw_ck (dw_is a27.2.1 r29 24) (
if (Int32.ofNat (dw_l a27.2.1 r29)) ≤ a27.1 then (pw_ck (dw_is a27.2.1 th 13) (
pw_ck (dw_is a27.2.1 q1 13) (pw_lt (dw_pi a27.2.1 q1 7 (dw_i a27.2.1 th 7)) (fun (Y30 : dw_S) =>
pw_ck (dw_is Y30 th 13) (
pw_ck (dw_is Y30 q1 13) (pw_lt (dw_pi Y30 q1 8 (dw_i Y30 th 8)) (fun (Y31 : dw_S) =>
pw_ck (dw_is Y31 th 13) (
pw_ck (dw_is Y31 q1 13) (pw_lt (dw_pi Y31 q1 9 (dw_i Y31 th 9)) (fun (Y32 : dw_S) =>
pw_ck (dw_is Y32 th 13) (
pw_ck (dw_is Y32 q1 13) (pw_lt (dw_pi Y32 q1 10 (dw_i Y32 th 10)) (fun (Y33 : dw_S) =>
pw_ck (a27.2.2.1 ≤ 21 ∧ a27.2.2.2 ≤ 86) (Q (q1, Y33)))))))))))))))
else (pw_ck ((a27.2.2.1 + 1) ≤ 21 ∧ (a27.2.2.2 + 3) ≤ 86) (
pw_al (dw_n a27.2.1) (fun (q34 : Nat) => pw_lt (dw_nw a27.2.1 q34 12 0 (fun _ => 0) (fun _ => none)) (fun (Y35 : dw_S) =>
pw_ck (((a27.2.2.1 + 1) + 2) ≤ 21 ∧ (a27.2.2.2 + 3) ≤ 86) (
dw_P_X12_init q34 Y35 (fun (r36 : dw_S) =>
pw_ck (dw_is r36 th 13) (
pw_nn (dw_r r36 th 6) (fun (r37 : Nat) =>
pw_ck (dw_is r36 r37 24 ∧ tw_ok a27.1 (dw_l r36 r37) = true) (
pw_nn (dw_r r36 r37 (Int32.toNatClampNeg a27.1)) (fun (r38 : Nat) =>
pw_ck (dw_is r36 r38 12) (
pw_nn (dw_r r36 r38 0) (fun (r39 : Nat) =>
pw_ck (dw_is r36 q34 12) (pw_lt (dw_pr r36 q34 0 (some r39)) (fun (Y40 : dw_S) =>
pw_ck (dw_is Y40 th 13) (
pw_nn (dw_r Y40 th 6) (fun (r41 : Nat) =>
pw_ck (dw_is Y40 r41 24 ∧ tw_ok a27.1 (dw_l Y40 r41) = true) (
pw_nn (dw_r Y40 r41 (Int32.toNatClampNeg a27.1)) (fun (r42 : Nat) =>
pw_ck (dw_is Y40 r42 12) (
pw_nn (dw_r Y40 r42 1) (fun (r43 : Nat) =>
pw_ck (dw_is Y40 q34 12) (pw_lt (dw_pr Y40 q34 1 (some r43)) (fun (Y44 : dw_S) =>
pw_ck (dw_is Y44 th 13) (
pw_nn (dw_r Y44 th 6) (fun (r45 : Nat) =>
pw_ck (dw_is Y44 r45 24 ∧ tw_ok a27.1 (dw_l Y44 r45) = true) (
pw_nn (dw_r Y44 r45 (Int32.toNatClampNeg a27.1)) (fun (r46 : Nat) =>
pw_ck (dw_is Y44 r46 12) (
pw_ck (tw_01 (dw_i Y44 r46 2) = true) (
pw_ck (dw_is Y44 q34 12) (pw_lt (dw_pi Y44 q34 2 (dw_i Y44 r46 2)) (fun (Y47 : dw_S) =>
pw_ck (dw_is Y47 q1 13) (
pw_nn (dw_r Y47 q1 6) (fun (r48 : Nat) =>
pw_ck (dw_is Y47 r48 24 ∧ tw_ok a27.1 (dw_l Y47 r48) = true ∧ ∀ v, (some q34) = some v → dw_is Y47 v 12) (pw_lt (dw_pr Y47 r48 (Int32.toNatClampNeg a27.1) (some q34)) (fun (Y49 : dw_S) =>
pw_lt (a27.1 + (1 : Int32)) (fun (v50 : Int32) =>
k28 (v50, Y49, ((a27.2.2.1 + 1) + 2), (a27.2.2.2 + 3))))))))))))))))))))))))))))))))))))))))) n (v26, Y25, (a19.2.2.1 + 1), (a19.2.2.2 + (Int32.toNatClampNeg (Int32.ofNat (dw_l a19.2.1 r22)))))))))))))))
else (pw_ck (dw_is a19.2.1 q1 13) (
pw_nn (dw_r a19.2.1 q1 5) (fun (r51 : Nat) =>
pw_ck (dw_is a19.2.1 th 13) (
pw_nn (dw_r a19.2.1 th 5) (fun (r52 : Nat) =>
pw_ck (dw_is a19.2.1 r52 26 ∧ tw_ok a19.1 (dw_l a19.2.1 r52) = true) (
pw_nn (dw_r a19.2.1 r52 (Int32.toNatClampNeg a19.1)) (fun (r53 : Nat) =>
pw_ck ((dw_is a19.2.1 r53 20 ∧ ∀ i, i < (dw_l a19.2.1 r53) → fits .int (.int (dw_i a19.2.1 r53 i)) = true) ∧ (a19.2.2.1 + 1) ≤ 21 ∧ (a19.2.2.2 + (dw_l a19.2.1 r53)) ≤ 86) (pw_al (dw_n a19.2.1) (fun (q54 : Nat) => pw_lt (dw_nw a19.2.1 q54 20 (dw_l a19.2.1 r53) (dw_i a19.2.1 r53) (fun _ => none)) (fun (Y55 : dw_S) =>
pw_ck (dw_is Y55 q54 20) (
pw_ck (dw_is Y55 r51 26 ∧ tw_ok a19.1 (dw_l Y55 r51) = true ∧ dw_is Y55 q54 20) (pw_lt (dw_pr Y55 r51 (Int32.toNatClampNeg a19.1) (some q54)) (fun (Y56 : dw_S) =>
pw_lt (a19.1 + (1 : Int32)) (fun (v57 : Int32) =>
k20 (v57, Y56, (a19.2.2.1 + 1), (a19.2.2.2 + (dw_l a19.2.1 r53))))))))))))))))))))) n (v18, Y17, 9, ((32 + (dw_l Y7 r8)) + (Int32.toNatClampNeg (Int32.ofNat (dw_l Y13 r14)))))))))))))))))))))))))))))))))))))))
theorem dw_y_X13_copy : tw_My yX13_copy cX13_copy 4 (some (.object "TreasureWalkLaw$Island")) 0 := ⟨List.mem_of_getElem? dw_w645, List.mem_of_getElem? dw_w50, by decide +kernel, by decide +kernel, by decide +kernel⟩
theorem dw_v_X13_copy : dw_Mv yX13_copy "TreasureWalkLaw$Island" := ⟨List.mem_of_getElem? dw_w643, List.mem_of_getElem? dw_w644⟩
set_option maxRecDepth 100000 in
set_option maxHeartbeats 4000000 in
theorem dw_m_X13_copy {l : Launch} {b : Nat} {D : tw_G} {C : Nat → ClassId} {S : Nat → Nat} (hD : D.2 = []) {n : Nat} {th : Nat} {Y : dw_S} {Q : Nat × dw_S → Prop}  (h : dw_P_X13_copy n th Y Q) : dw_Met l b D C S yX13_copy cX13_copy 4 (some (.object "TreasureWalkLaw$Island")) ({ frames := 2, cells := 21, slots := 86, locals := 40 } : Room) [.ref (b + th)] Y (fun r => some (.ref (b + r.1))) (fun r => r.2) Q := by
  refine dw_metOf (dw_P_X13_copy n th Y Q) h _ _ Q (by decide +kernel) (Nat.le_of_ble_eq_true rfl) ?_
  intro z el eB eD eC eS eR X hA hnm hret hQ
  subst el eD eC eS
  have hb : tw_zB z ≤ b := Nat.le_of_eq eB
  have hA : dw_AK (tw_zB z) (tw_zS z) (tw_zs z) := by rw [eB]; exact hA
  have hfr : (tw_zR z).frames = 2 := by rw [eR]
  have hlo : (tw_zR z).locals = 40 := by rw [eR]
  have eMC : (tw_zR z).cells = 21 := by rw [eR]
  have eMS : (tw_zR z).slots = 86 := by rw [eR]
  have X : tw_X z cX13_copy "TreasureWalkLaw$Island" 4 := X
  show dw_Rf (tw_cz z 0 0) b _ Y 0 [(0, .ref (b + th))] []
  unfold dw_P_X13_copy
  refine dw_ckp (by exact ⟨Nat.le_of_ble_eq_true rfl, Nat.le_of_ble_eq_true rfl⟩) (e_new (ci := 13) (T := TX13) (N := 13) (c := 0) (s := 0) (z := tw_cz z 0 0) X ⟨rfl, rfl⟩ ⟨eMC, eMS⟩ dX13_copy_0 _ dw_w646 (List.mem_of_getElem? dw_w581) (List.mem_of_getElem? dw_w50) dw_in13 tyX13 tyX13_ok rfl dw_df13 (by decide) (fun a => dw_fr13) (fun q1 Y2 => ?_))
  show dw_Rf (tw_cz z 1 13) b _ Y2 _ [(0, .ref (b + th))] [.ref (b + q1)]
  refine e_dup (z := tw_cz z 1 13) X dX13_copy_3 rfl ?_
  refine dw_ckp (by exact ⟨Nat.le_of_ble_eq_true rfl, Nat.le_of_ble_eq_true rfl⟩) (e_callI (c := 1) (s := 13) (As := []) (z := tw_cz z 1 13) X hA hb hD ⟨rfl, rfl⟩ ⟨eMC, eMS⟩ dX13_copy_4 (fun Q h => dw_m_X13_init hD h) dw_y_X13_init dw_v_X13_init rfl _ dw_w647 rfl ⟨tw_le hfr rfl, tw_le hlo rfl⟩ (Nat.le_of_ble_eq_true rfl) rfl (fun r3 => ?_))
  show dw_Rf (tw_cz z 7 32) b _ r3 _ [(0, .ref (b + th))] [.ref (b + q1)]
  refine e_astore_n (z := tw_cz z 7 32) X dX13_copy_7 rfl (by decide) (L' := [(1, .ref (b + q1)), (0, .ref (b + th))]) rfl ?_
  refine e_aload_n (z := tw_cz z 7 32) X dX13_copy_8 rfl 0 rfl ?_
  refine e_aload_n (z := tw_cz z 7 32) X dX13_copy_9 rfl 1 rfl ?_
  refine e_getf (ci := 13) (T := TX13) (f := 0) (k := th) (z := tw_cz z 7 32) X dX13_copy_10 (Or.inl ⟨_, dw_w590⟩) dw_in13 rfl (by decide) (by decide) (fun h => dw_E13 h) rfl ?_
  show dw_Rf (tw_cz z 7 32) b _ r3 _ [(1, .ref (b + q1)), (0, .ref (b + th))] (.int (dw_i r3 th 0) :: .ref (b + q1) :: [])
  refine e_put (ci := 13) (T := TX13) (f := 0) (ty := .int) (k := q1) (z := tw_cz z 7 32) X hb dX13_copy_13 (Or.inl ⟨_, dw_w590⟩) dw_in13 tyX13 tyX13_ok nmX13 rfl (by decide) rfl (by decide +kernel) rfl rfl (by decide) (fun h => dw_F13 h) (Nat.le_of_ble_eq_true rfl) (fun h => dw_p13_0 h) rfl rfl rfl (fun a ha => dw_E_pi ha) (fun Y4 => ?_)
  refine e_aload_n (z := tw_cz z 7 32) X dX13_copy_16 rfl 0 rfl ?_
  refine e_aload_n (z := tw_cz z 7 32) X dX13_copy_17 rfl 1 rfl ?_
  refine e_getf (ci := 13) (T := TX13) (f := 1) (k := th) (z := tw_cz z 7 32) X dX13_copy_18 (Or.inl ⟨_, dw_w592⟩) dw_in13 rfl (by decide) (by decide) (fun h => dw_E13 h) rfl ?_
  show dw_Rf (tw_cz z 7 32) b _ Y4 _ [(1, .ref (b + q1)), (0, .ref (b + th))] (.int (dw_i Y4 th 1) :: .ref (b + q1) :: [])
  refine e_put (ci := 13) (T := TX13) (f := 1) (ty := .int) (k := q1) (z := tw_cz z 7 32) X hb dX13_copy_21 (Or.inl ⟨_, dw_w592⟩) dw_in13 tyX13 tyX13_ok nmX13 rfl (by decide) rfl (by decide +kernel) rfl rfl (by decide) (fun h => dw_F13 h) (Nat.le_of_ble_eq_true rfl) (fun h => dw_p13_1 h) rfl rfl rfl (fun a ha => dw_E_pi ha) (fun Y5 => ?_)
  refine e_aload_n (z := tw_cz z 7 32) X dX13_copy_24 rfl 0 rfl ?_
  refine e_aload_n (z := tw_cz z 7 32) X dX13_copy_25 rfl 1 rfl ?_
  refine e_getf (ci := 13) (T := TX13) (f := 2) (k := th) (z := tw_cz z 7 32) X dX13_copy_26 (Or.inl ⟨_, dw_w594⟩) dw_in13 rfl (by decide) (by decide) (fun h => dw_E13 h) rfl ?_
  refine e_nn (r := (dw_r Y5 th 2)) (LL := fun _ => [(1, .ref (b + q1)), (0, .ref (b + th))]) (SS := fun q => dw_v b q :: [.ref (b + q1)]) (fun r6 => ?_)
  show dw_Rf (tw_cz z 7 32) b _ Y5 _ [(1, .ref (b + q1)), (0, .ref (b + th))] [.ref (b + r6), .ref (b + q1)]
  show dw_Rf (tw_cz z 7 32) b _ Y5 _ [(1, .ref (b + q1)), (0, .ref (b + th))] (dw_v b (some r6) :: .ref (b + q1) :: [])
  refine e_put (ci := 13) (T := TX13) (f := 2) (ty := .array .boolean) (k := q1) (z := tw_cz z 7 32) X hb dX13_copy_29 (Or.inl ⟨_, dw_w594⟩) dw_in13 tyX13 tyX13_ok nmX13 rfl (by decide) rfl (by decide +kernel) dw_narrow dw_fitsA (by decide) (fun h => dw_F13 h) (Nat.le_of_ble_eq_true rfl) (fun h => dw_p13_2 h) rfl rfl rfl (fun a ha => dw_E_pr ha) (fun Y7 => ?_)
  refine e_aload_n (z := tw_cz z 7 32) X dX13_copy_32 rfl 0 rfl ?_
  refine e_aload_n (z := tw_cz z 7 32) X dX13_copy_33 rfl 1 rfl ?_
  refine e_getf (ci := 13) (T := TX13) (f := 3) (k := th) (z := tw_cz z 7 32) X dX13_copy_34 (Or.inl ⟨_, dw_w596⟩) dw_in13 rfl (by decide) (by decide) (fun h => dw_E13 h) rfl ?_
  refine e_nn (r := (dw_r Y7 th 3)) (LL := fun _ => [(1, .ref (b + q1)), (0, .ref (b + th))]) (SS := fun q => dw_v b q :: [.ref (b + q1)]) (fun r8 => ?_)
  show dw_Rf (tw_cz z 7 32) b _ Y7 _ [(1, .ref (b + q1)), (0, .ref (b + th))] [.ref (b + r8), .ref (b + q1)]
  refine e_clone (k := r8) (kd := 21) (a := 1) (ty := .boolean) (c := 7) (s := 32) (z := tw_cz z 7 32) X ⟨rfl, rfl⟩ ⟨eMC, eMS⟩ dX13_copy_37 _ dw_w648 (List.mem_of_getElem? dw_w649) (List.mem_of_getElem? dw_w650) (List.mem_of_getElem? dw_w651) (List.mem_of_getElem? dw_w652) hA.2.2.2.2.2.1 (by decide) (fun Y k h => dw_E21 h) rfl (va_nm_boolean ((X.K.2 1 _ rfl).2)) (tw_le hfr rfl) (Nat.le_trans (Nat.le_of_ble_eq_true rfl) (tw_le hlo (c := 30) rfl)) (fun q9 Y10 => ?_)
  show dw_Rf (tw_cz z 8 (32 + (dw_l Y7 r8))) b _ Y10 _ [(1, .ref (b + q1)), (0, .ref (b + th))] [.ref (b + q9), .ref (b + q1)]
  refine e_castA (kd := 21) (a := 1) (z := tw_cz z 8 (32 + (dw_l Y7 r8))) X dX13_copy_40 _ dw_w654 (by decide) (fun h => dw_E21 h) (va_nm_boolean ((X.K.2 1 _ rfl).2)) ?_
  show dw_Rf (tw_cz z 8 (32 + (dw_l Y7 r8))) b _ Y10 _ [(1, .ref (b + q1)), (0, .ref (b + th))] (dw_v b (some q9) :: .ref (b + q1) :: [])
  refine e_put (ci := 13) (T := TX13) (f := 3) (ty := .array .boolean) (k := q1) (z := tw_cz z 8 (32 + (dw_l Y7 r8))) X hb dX13_copy_43 (Or.inl ⟨_, dw_w596⟩) dw_in13 tyX13 tyX13_ok nmX13 rfl (by decide) rfl (by decide +kernel) dw_narrow dw_fitsA (by decide) (fun h => dw_F13 h) (Nat.le_of_ble_eq_true rfl) (fun h => dw_p13_3 h) rfl rfl rfl (fun a ha => dw_E_pr ha) (fun Y11 => ?_)
  refine e_aload_n (z := tw_cz z 8 (32 + (dw_l Y7 r8))) X dX13_copy_46 rfl 0 rfl ?_
  refine e_aload_n (z := tw_cz z 8 (32 + (dw_l Y7 r8))) X dX13_copy_47 rfl 1 rfl ?_
  refine e_getf (ci := 13) (T := TX13) (f := 4) (k := th) (z := tw_cz z 8 (32 + (dw_l Y7 r8))) X dX13_copy_48 (Or.inl ⟨_, dw_w598⟩) dw_in13 rfl (by decide) (by decide) (fun h => dw_E13 h) rfl ?_
  refine e_nn (r := (dw_r Y11 th 4)) (LL := fun _ => [(1, .ref (b + q1)), (0, .ref (b + th))]) (SS := fun q => dw_v b q :: [.ref (b + q1)]) (fun r12 => ?_)
  show dw_Rf (tw_cz z 8 (32 + (dw_l Y7 r8))) b _ Y11 _ [(1, .ref (b + q1)), (0, .ref (b + th))] [.ref (b + r12), .ref (b + q1)]
  show dw_Rf (tw_cz z 8 (32 + (dw_l Y7 r8))) b _ Y11 _ [(1, .ref (b + q1)), (0, .ref (b + th))] (dw_v b (some r12) :: .ref (b + q1) :: [])
  refine e_put (ci := 13) (T := TX13) (f := 4) (ty := .array .int) (k := q1) (z := tw_cz z 8 (32 + (dw_l Y7 r8))) X hb dX13_copy_51 (Or.inl ⟨_, dw_w598⟩) dw_in13 tyX13 tyX13_ok nmX13 rfl (by decide) rfl (by decide +kernel) dw_narrow dw_fitsA (by decide) (fun h => dw_F13 h) (Nat.le_of_ble_eq_true rfl) (fun h => dw_p13_4 h) rfl rfl rfl (fun a ha => dw_E_pr ha) (fun Y13 => ?_)
  refine e_aload_n (z := tw_cz z 8 (32 + (dw_l Y7 r8))) X dX13_copy_54 rfl 0 rfl ?_
  refine e_aload_n (z := tw_cz z 8 (32 + (dw_l Y7 r8))) X dX13_copy_55 rfl 1 rfl ?_
  refine e_getf (ci := 13) (T := TX13) (f := 5) (k := th) (z := tw_cz z 8 (32 + (dw_l Y7 r8))) X dX13_copy_56 (Or.inl ⟨_, dw_w600⟩) dw_in13 rfl (by decide) (by decide) (fun h => dw_E13 h) rfl ?_
  refine e_nn (r := (dw_r Y13 th 5)) (LL := fun _ => [(1, .ref (b + q1)), (0, .ref (b + th))]) (SS := fun q => dw_v b q :: [.ref (b + q1)]) (fun r14 => ?_)
  show dw_Rf (tw_cz z 8 (32 + (dw_l Y7 r8))) b _ Y13 _ [(1, .ref (b + q1)), (0, .ref (b + th))] [.ref (b + r14), .ref (b + q1)]
  refine e_alen (k := r14) (kd := 26) (a := 4) (ty := .array .int) (x := (0, .inr (.inr (.inr (.inr (fun j => Option.map (fun a => b + a) (dw_r Y13 r14 j))))))) (z := tw_cz z 8 (32 + (dw_l Y7 r8))) X dX13_copy_59 (by decide) (fun h => dw_E26 h) rfl ?_
  refine e_newA (c := 8) (s := (32 + (dw_l Y7 r8))) (z := tw_cz z 8 (32 + (dw_l Y7 r8))) X ⟨rfl, rfl⟩ ⟨eMC, eMS⟩ dX13_copy_60 _ dw_w586 hA.2.2.1.2 (fun q15 Y16 => ?_)
  show dw_Rf (tw_cz z 9 ((32 + (dw_l Y7 r8)) + (Int32.toNatClampNeg (Int32.ofNat (dw_l Y13 r14))))) b _ Y16 _ [(1, .ref (b + q1)), (0, .ref (b + th))] [.ref (b + q15), .ref (b + q1)]
  show dw_Rf (tw_cz z 9 ((32 + (dw_l Y7 r8)) + (Int32.toNatClampNeg (Int32.ofNat (dw_l Y13 r14))))) b _ Y16 _ [(1, .ref (b + q1)), (0, .ref (b + th))] (dw_v b (some q15) :: .ref (b + q1) :: [])
  refine e_put (ci := 13) (T := TX13) (f := 5) (ty := .array (.array .int)) (k := q1) (z := tw_cz z 9 ((32 + (dw_l Y7 r8)) + (Int32.toNatClampNeg (Int32.ofNat (dw_l Y13 r14))))) X hb dX13_copy_63 (Or.inl ⟨_, dw_w600⟩) dw_in13 tyX13 tyX13_ok nmX13 rfl (by decide) rfl (by decide +kernel) dw_narrow dw_fitsA (by decide) (fun h => dw_F13 h) (Nat.le_of_ble_eq_true rfl) (fun h => dw_p13_5 h) rfl rfl rfl (fun a ha => dw_E_pr ha) (fun Y17 => ?_)
  refine e_iconst (z := tw_cz z 9 ((32 + (dw_l Y7 r8)) + (Int32.toNatClampNeg (Int32.ofNat (dw_l Y13 r14))))) X dX13_copy_66 (v := (0 : Int32)) (by decide) ?_
  refine e_istore_n (z := tw_cz z 9 ((32 + (dw_l Y7 r8)) + (Int32.toNatClampNeg (Int32.ofNat (dw_l Y13 r14))))) X dX13_copy_67 rfl (by decide) (LL := fun v18 => [(2, .int v18), (1, .ref (b + q1)), (0, .ref (b + th))]) (fun _ => rfl) (fun v18 => ?_)
  refine e_lp (α := Int32 × dw_S × Nat × Nat) (zJ := fun a19 => tw_cz z a19.2.2.1 a19.2.2.2) (YJ := fun a19 => a19.2.1) (pcJ := 68) (LJ := fun a19 => [(2, .int a19.1), (1, .ref (b + q1)), (0, .ref (b + th))]) (stJ := fun a19 => []) (fun k20 hk20 a19 => ?_) n (v18, Y17, 9, ((32 + (dw_l Y7 r8)) + (Int32.toNatClampNeg (Int32.ofNat (dw_l Y13 r14)))))
  refine e_iload_n (z := tw_cz z a19.2.2.1 a19.2.2.2) X dX13_copy_68 rfl 0 rfl ?_
  refine e_aload_n (z := tw_cz z a19.2.2.1 a19.2.2.2) X dX13_copy_69 rfl 2 rfl ?_
  refine e_getf (ci := 13) (T := TX13) (f := 5) (k := th) (z := tw_cz z a19.2.2.1 a19.2.2.2) X dX13_copy_70 (Or.inl ⟨_, dw_w600⟩) dw_in13 rfl (by decide) (by decide) (fun h => dw_E13 h) rfl ?_
  refine e_nn (r := (dw_r a19.2.1 th 5)) (LL := fun _ => [(2, .int a19.1), (1, .ref (b + q1)), (0, .ref (b + th))]) (SS := fun q => dw_v b q :: [.int a19.1]) (fun r21 => ?_)
  show dw_Rf (tw_cz z a19.2.2.1 a19.2.2.2) b _ a19.2.1 _ [(2, .int a19.1), (1, .ref (b + q1)), (0, .ref (b + th))] [.ref (b + r21), .int a19.1]
  refine e_alen (k := r21) (kd := 26) (a := 4) (ty := .array .int) (x := (0, .inr (.inr (.inr (.inr (fun j => Option.map (fun a => b + a) (dw_r a19.2.1 r21 j))))))) (z := tw_cz z a19.2.2.1 a19.2.2.2) X dX13_copy_73 (by decide) (fun h => dw_E26 h) rfl ?_
  refine e_icmp_ge (z := tw_cz z a19.2.2.1 a19.2.2.2) X dX13_copy_74 (tgt := 101) (by decide) ?_ ?_
  ·
    refine e_aload_n (z := tw_cz z a19.2.2.1 a19.2.2.2) X dX13_copy_101 rfl 1 rfl ?_
    refine e_aload_n (z := tw_cz z a19.2.2.1 a19.2.2.2) X dX13_copy_102 rfl 2 rfl ?_
    refine e_getf (ci := 13) (T := TX13) (f := 6) (k := th) (z := tw_cz z a19.2.2.1 a19.2.2.2) X dX13_copy_103 (Or.inl ⟨_, dw_w602⟩) dw_in13 rfl (by decide) (by decide) (fun h => dw_E13 h) rfl ?_
    refine e_nn (r := (dw_r a19.2.1 th 6)) (LL := fun _ => [(2, .int a19.1), (1, .ref (b + q1)), (0, .ref (b + th))]) (SS := fun q => dw_v b q :: [.ref (b + q1)]) (fun r22 => ?_)
    show dw_Rf (tw_cz z a19.2.2.1 a19.2.2.2) b _ a19.2.1 _ [(2, .int a19.1), (1, .ref (b + q1)), (0, .ref (b + th))] [.ref (b + r22), .ref (b + q1)]
    refine e_alen (k := r22) (kd := 24) (a := 7) (ty := .object "TreasureWalkLaw$Clue") (x := (0, .inr (.inr (.inr (.inr (fun j => Option.map (fun a => b + a) (dw_r a19.2.1 r22 j))))))) (z := tw_cz z a19.2.2.1 a19.2.2.2) X dX13_copy_106 (by decide) (fun h => dw_E24 h) rfl ?_
    refine e_newq (t0 := 7) (kd := 24) (c := a19.2.2.1) (s := a19.2.2.2) (z := tw_cz z a19.2.2.1 a19.2.2.2) X ⟨rfl, rfl⟩ ⟨eMC, eMS⟩ dX13_copy_107 _ dw_w588 hA.2.1.2.1 rfl (by decide) (fun Y k h => dw_E24 h) (fun q23 Y24 => ?_)
    show dw_Rf (tw_cz z (a19.2.2.1 + 1) (a19.2.2.2 + (Int32.toNatClampNeg (Int32.ofNat (dw_l a19.2.1 r22))))) b _ Y24 _ [(2, .int a19.1), (1, .ref (b + q1)), (0, .ref (b + th))] [.ref (b + q23), .ref (b + q1)]
    show dw_Rf (tw_cz z (a19.2.2.1 + 1) (a19.2.2.2 + (Int32.toNatClampNeg (Int32.ofNat (dw_l a19.2.1 r22))))) b _ Y24 _ [(2, .int a19.1), (1, .ref (b + q1)), (0, .ref (b + th))] (dw_v b (some q23) :: .ref (b + q1) :: [])
    refine e_put (ci := 13) (T := TX13) (f := 6) (ty := .array (.object "TreasureWalkLaw$Clue")) (k := q1) (z := tw_cz z (a19.2.2.1 + 1) (a19.2.2.2 + (Int32.toNatClampNeg (Int32.ofNat (dw_l a19.2.1 r22))))) X hb dX13_copy_110 (Or.inl ⟨_, dw_w602⟩) dw_in13 tyX13 tyX13_ok nmX13 rfl (by decide) rfl (by decide +kernel) dw_narrow dw_fitsA (by decide) (fun h => dw_F13 h) (Nat.le_of_ble_eq_true rfl) (fun h => dw_p13_6 h) rfl rfl rfl (fun a ha => dw_E_pr ha) (fun Y25 => ?_)
    refine e_iconst (z := tw_cz z (a19.2.2.1 + 1) (a19.2.2.2 + (Int32.toNatClampNeg (Int32.ofNat (dw_l a19.2.1 r22))))) X dX13_copy_113 (v := (0 : Int32)) (by decide) ?_
    refine e_istore_n (z := tw_cz z (a19.2.2.1 + 1) (a19.2.2.2 + (Int32.toNatClampNeg (Int32.ofNat (dw_l a19.2.1 r22))))) X dX13_copy_114 rfl (by decide) (LL := fun v26 => [(2, .int v26), (1, .ref (b + q1)), (0, .ref (b + th))]) (fun _ => rfl) (fun v26 => ?_)
    refine e_lp (α := Int32 × dw_S × Nat × Nat) (zJ := fun a27 => tw_cz z a27.2.2.1 a27.2.2.2) (YJ := fun a27 => a27.2.1) (pcJ := 115) (LJ := fun a27 => [(2, .int a27.1), (1, .ref (b + q1)), (0, .ref (b + th))]) (stJ := fun a27 => []) (fun k28 hk28 a27 => ?_) n (v26, Y25, (a19.2.2.1 + 1), (a19.2.2.2 + (Int32.toNatClampNeg (Int32.ofNat (dw_l a19.2.1 r22)))))
    refine e_iload_n (z := tw_cz z a27.2.2.1 a27.2.2.2) X dX13_copy_115 rfl 0 rfl ?_
    refine e_aload_n (z := tw_cz z a27.2.2.1 a27.2.2.2) X dX13_copy_116 rfl 2 rfl ?_
    refine e_getf (ci := 13) (T := TX13) (f := 6) (k := th) (z := tw_cz z a27.2.2.1 a27.2.2.2) X dX13_copy_117 (Or.inl ⟨_, dw_w602⟩) dw_in13 rfl (by decide) (by decide) (fun h => dw_E13 h) rfl ?_
    refine e_nn (r := (dw_r a27.2.1 th 6)) (LL := fun _ => [(2, .int a27.1), (1, .ref (b + q1)), (0, .ref (b + th))]) (SS := fun q => dw_v b q :: [.int a27.1]) (fun r29 => ?_)
    show dw_Rf (tw_cz z a27.2.2.1 a27.2.2.2) b _ a27.2.1 _ [(2, .int a27.1), (1, .ref (b + q1)), (0, .ref (b + th))] [.ref (b + r29), .int a27.1]
    refine e_alen (k := r29) (kd := 24) (a := 7) (ty := .object "TreasureWalkLaw$Clue") (x := (0, .inr (.inr (.inr (.inr (fun j => Option.map (fun a => b + a) (dw_r a27.2.1 r29 j))))))) (z := tw_cz z a27.2.2.1 a27.2.2.2) X dX13_copy_120 (by decide) (fun h => dw_E24 h) rfl ?_
    refine e_icmp_ge (z := tw_cz z a27.2.2.1 a27.2.2.2) X dX13_copy_121 (tgt := 184) (by decide) ?_ ?_
    ·
      refine e_aload_n (z := tw_cz z a27.2.2.1 a27.2.2.2) X dX13_copy_184 rfl 1 rfl ?_
      refine e_aload_n (z := tw_cz z a27.2.2.1 a27.2.2.2) X dX13_copy_185 rfl 2 rfl ?_
      refine e_getf (ci := 13) (T := TX13) (f := 7) (k := th) (z := tw_cz z a27.2.2.1 a27.2.2.2) X dX13_copy_186 (Or.inl ⟨_, dw_w604⟩) dw_in13 rfl (by decide) (by decide) (fun h => dw_E13 h) rfl ?_
      show dw_Rf (tw_cz z a27.2.2.1 a27.2.2.2) b _ a27.2.1 _ [(2, .int a27.1), (1, .ref (b + q1)), (0, .ref (b + th))] (.int (dw_i a27.2.1 th 7) :: .ref (b + q1) :: [])
      refine e_put (ci := 13) (T := TX13) (f := 7) (ty := .int) (k := q1) (z := tw_cz z a27.2.2.1 a27.2.2.2) X hb dX13_copy_189 (Or.inl ⟨_, dw_w604⟩) dw_in13 tyX13 tyX13_ok nmX13 rfl (by decide) rfl (by decide +kernel) rfl rfl (by decide) (fun h => dw_F13 h) (Nat.le_of_ble_eq_true rfl) (fun h => dw_p13_7 h) rfl rfl rfl (fun a ha => dw_E_pi ha) (fun Y30 => ?_)
      refine e_aload_n (z := tw_cz z a27.2.2.1 a27.2.2.2) X dX13_copy_192 rfl 1 rfl ?_
      refine e_aload_n (z := tw_cz z a27.2.2.1 a27.2.2.2) X dX13_copy_193 rfl 2 rfl ?_
      refine e_getf (ci := 13) (T := TX13) (f := 8) (k := th) (z := tw_cz z a27.2.2.1 a27.2.2.2) X dX13_copy_194 (Or.inl ⟨_, dw_w606⟩) dw_in13 rfl (by decide) (by decide) (fun h => dw_E13 h) rfl ?_
      show dw_Rf (tw_cz z a27.2.2.1 a27.2.2.2) b _ Y30 _ [(2, .int a27.1), (1, .ref (b + q1)), (0, .ref (b + th))] (.int (dw_i Y30 th 8) :: .ref (b + q1) :: [])
      refine e_put (ci := 13) (T := TX13) (f := 8) (ty := .int) (k := q1) (z := tw_cz z a27.2.2.1 a27.2.2.2) X hb dX13_copy_197 (Or.inl ⟨_, dw_w606⟩) dw_in13 tyX13 tyX13_ok nmX13 rfl (by decide) rfl (by decide +kernel) rfl rfl (by decide) (fun h => dw_F13 h) (Nat.le_of_ble_eq_true rfl) (fun h => dw_p13_8 h) rfl rfl rfl (fun a ha => dw_E_pi ha) (fun Y31 => ?_)
      refine e_aload_n (z := tw_cz z a27.2.2.1 a27.2.2.2) X dX13_copy_200 rfl 1 rfl ?_
      refine e_aload_n (z := tw_cz z a27.2.2.1 a27.2.2.2) X dX13_copy_201 rfl 2 rfl ?_
      refine e_getf (ci := 13) (T := TX13) (f := 9) (k := th) (z := tw_cz z a27.2.2.1 a27.2.2.2) X dX13_copy_202 (Or.inl ⟨_, dw_w608⟩) dw_in13 rfl (by decide) (by decide) (fun h => dw_E13 h) rfl ?_
      show dw_Rf (tw_cz z a27.2.2.1 a27.2.2.2) b _ Y31 _ [(2, .int a27.1), (1, .ref (b + q1)), (0, .ref (b + th))] (.int (dw_i Y31 th 9) :: .ref (b + q1) :: [])
      refine e_put (ci := 13) (T := TX13) (f := 9) (ty := .int) (k := q1) (z := tw_cz z a27.2.2.1 a27.2.2.2) X hb dX13_copy_205 (Or.inl ⟨_, dw_w608⟩) dw_in13 tyX13 tyX13_ok nmX13 rfl (by decide) rfl (by decide +kernel) rfl rfl (by decide) (fun h => dw_F13 h) (Nat.le_of_ble_eq_true rfl) (fun h => dw_p13_9 h) rfl rfl rfl (fun a ha => dw_E_pi ha) (fun Y32 => ?_)
      refine e_aload_n (z := tw_cz z a27.2.2.1 a27.2.2.2) X dX13_copy_208 rfl 1 rfl ?_
      refine e_aload_n (z := tw_cz z a27.2.2.1 a27.2.2.2) X dX13_copy_209 rfl 2 rfl ?_
      refine e_getf (ci := 13) (T := TX13) (f := 10) (k := th) (z := tw_cz z a27.2.2.1 a27.2.2.2) X dX13_copy_210 (Or.inl ⟨_, dw_w610⟩) dw_in13 rfl (by decide) (by decide) (fun h => dw_E13 h) rfl ?_
      show dw_Rf (tw_cz z a27.2.2.1 a27.2.2.2) b _ Y32 _ [(2, .int a27.1), (1, .ref (b + q1)), (0, .ref (b + th))] (.int (dw_i Y32 th 10) :: .ref (b + q1) :: [])
      refine e_put (ci := 13) (T := TX13) (f := 10) (ty := .int) (k := q1) (z := tw_cz z a27.2.2.1 a27.2.2.2) X hb dX13_copy_213 (Or.inl ⟨_, dw_w610⟩) dw_in13 tyX13 tyX13_ok nmX13 rfl (by decide) rfl (by decide +kernel) rfl rfl (by decide) (fun h => dw_F13 h) (Nat.le_of_ble_eq_true rfl) (fun h => dw_p13_10 h) rfl rfl rfl (fun a ha => dw_E_pi ha) (fun Y33 => ?_)
      refine e_aload_n (z := tw_cz z a27.2.2.1 a27.2.2.2) X dX13_copy_216 rfl 1 rfl ?_
      exact e_aret (z := z) X eB dX13_copy_217 hret (Or.inl ⟨_, rfl⟩) (Or.inr ⟨_, rfl⟩) ⟨eMC, eMS⟩ hQ rfl rfl
    ·
      refine e_new (ci := 12) (T := TX12) (N := 3) (c := a27.2.2.1) (s := a27.2.2.2) (z := tw_cz z a27.2.2.1 a27.2.2.2) X ⟨rfl, rfl⟩ ⟨eMC, eMS⟩ dX13_copy_124 _ dw_w588 (List.mem_of_getElem? dw_w659) (List.mem_of_getElem? dw_w67) dw_in12 tyX12 tyX12_ok rfl dw_df12 (by decide) (fun a => dw_fr12) (fun q34 Y35 => ?_)
      show dw_Rf (tw_cz z (a27.2.2.1 + 1) (a27.2.2.2 + 3)) b _ Y35 _ [(2, .int a27.1), (1, .ref (b + q1)), (0, .ref (b + th))] [.ref (b + q34)]
      refine e_dup (z := tw_cz z (a27.2.2.1 + 1) (a27.2.2.2 + 3)) X dX13_copy_127 rfl ?_
      refine e_callIN (c := (a27.2.2.1 + 1)) (s := (a27.2.2.2 + 3)) (As := []) (z := tw_cz z (a27.2.2.1 + 1) (a27.2.2.2 + 3)) X hA hb hD ⟨rfl, rfl⟩ ⟨eMC, eMS⟩ dX13_copy_128 (fun Q h => dw_m_X12_init hD h) dw_y_X12_init dw_v_X12_init rfl _ dw_w660 rfl ⟨tw_le hfr rfl, tw_le hlo rfl⟩ (Nat.le_of_ble_eq_true rfl) rfl (fun r36 => ?_)
      show dw_Rf (tw_cz z ((a27.2.2.1 + 1) + 2) (a27.2.2.2 + 3)) b _ r36 _ [(2, .int a27.1), (1, .ref (b + q1)), (0, .ref (b + th))] [.ref (b + q34)]
      refine e_astore_n (z := tw_cz z ((a27.2.2.1 + 1) + 2) (a27.2.2.2 + 3)) X dX13_copy_131 rfl (by decide) (L' := [(3, .ref (b + q34)), (2, .int a27.1), (1, .ref (b + q1)), (0, .ref (b + th))]) rfl ?_
      refine e_aload_n (z := tw_cz z ((a27.2.2.1 + 1) + 2) (a27.2.2.2 + 3)) X dX13_copy_132 rfl 0 rfl ?_
      refine e_aload_n (z := tw_cz z ((a27.2.2.1 + 1) + 2) (a27.2.2.2 + 3)) X dX13_copy_133 rfl 3 rfl ?_
      refine e_getf (ci := 13) (T := TX13) (f := 6) (k := th) (z := tw_cz z ((a27.2.2.1 + 1) + 2) (a27.2.2.2 + 3)) X dX13_copy_134 (Or.inl ⟨_, dw_w602⟩) dw_in13 rfl (by decide) (by decide) (fun h => dw_E13 h) rfl ?_
      refine e_nn (r := (dw_r r36 th 6)) (LL := fun _ => [(3, .ref (b + q34)), (2, .int a27.1), (1, .ref (b + q1)), (0, .ref (b + th))]) (SS := fun q => dw_v b q :: [.ref (b + q34)]) (fun r37 => ?_)
      show dw_Rf (tw_cz z ((a27.2.2.1 + 1) + 2) (a27.2.2.2 + 3)) b _ r36 _ [(3, .ref (b + q34)), (2, .int a27.1), (1, .ref (b + q1)), (0, .ref (b + th))] [.ref (b + r37), .ref (b + q34)]
      refine e_iload_n (z := tw_cz z ((a27.2.2.1 + 1) + 2) (a27.2.2.2 + 3)) X dX13_copy_137 rfl 1 rfl ?_
      refine e_aald (k := r37) (kd := 24) (a := 7) (ty := .object "TreasureWalkLaw$Clue") (z := tw_cz z ((a27.2.2.1 + 1) + 2) (a27.2.2.2 + 3)) X dX13_copy_138 (by decide) (fun h => dw_E24 h) rfl rfl ?_
      refine e_nn (r := (dw_r r36 r37 (Int32.toNatClampNeg a27.1))) (LL := fun _ => [(3, .ref (b + q34)), (2, .int a27.1), (1, .ref (b + q1)), (0, .ref (b + th))]) (SS := fun q => dw_v b q :: [.ref (b + q34)]) (fun r38 => ?_)
      show dw_Rf (tw_cz z ((a27.2.2.1 + 1) + 2) (a27.2.2.2 + 3)) b _ r36 _ [(3, .ref (b + q34)), (2, .int a27.1), (1, .ref (b + q1)), (0, .ref (b + th))] [.ref (b + r38), .ref (b + q34)]
      refine e_getf (ci := 12) (T := TX12) (f := 0) (k := r38) (z := tw_cz z ((a27.2.2.1 + 1) + 2) (a27.2.2.2 + 3)) X dX13_copy_139 (Or.inl ⟨_, dw_w667⟩) dw_in12 rfl (by decide) (by decide) (fun h => dw_E12 h) rfl ?_
      refine e_nn (r := (dw_r r36 r38 0)) (LL := fun _ => [(3, .ref (b + q34)), (2, .int a27.1), (1, .ref (b + q1)), (0, .ref (b + th))]) (SS := fun q => dw_v b q :: [.ref (b + q34)]) (fun r39 => ?_)
      show dw_Rf (tw_cz z ((a27.2.2.1 + 1) + 2) (a27.2.2.2 + 3)) b _ r36 _ [(3, .ref (b + q34)), (2, .int a27.1), (1, .ref (b + q1)), (0, .ref (b + th))] [.ref (b + r39), .ref (b + q34)]
      show dw_Rf (tw_cz z ((a27.2.2.1 + 1) + 2) (a27.2.2.2 + 3)) b _ r36 _ [(3, .ref (b + q34)), (2, .int a27.1), (1, .ref (b + q1)), (0, .ref (b + th))] (dw_v b (some r39) :: .ref (b + q34) :: [])
      refine e_put (ci := 12) (T := TX12) (f := 0) (ty := .array .int) (k := q34) (z := tw_cz z ((a27.2.2.1 + 1) + 2) (a27.2.2.2 + 3)) X hb dX13_copy_142 (Or.inl ⟨_, dw_w667⟩) dw_in12 tyX12 tyX12_ok nmX12 rfl (by decide) rfl (by decide +kernel) dw_narrow dw_fitsA (by decide) (fun h => dw_F12 h) (Nat.le_of_ble_eq_true rfl) (fun h => dw_p12_0 h) rfl rfl rfl (fun a ha => dw_E_pr ha) (fun Y40 => ?_)
      refine e_aload_n (z := tw_cz z ((a27.2.2.1 + 1) + 2) (a27.2.2.2 + 3)) X dX13_copy_145 rfl 0 rfl ?_
      refine e_aload_n (z := tw_cz z ((a27.2.2.1 + 1) + 2) (a27.2.2.2 + 3)) X dX13_copy_146 rfl 3 rfl ?_
      refine e_getf (ci := 13) (T := TX13) (f := 6) (k := th) (z := tw_cz z ((a27.2.2.1 + 1) + 2) (a27.2.2.2 + 3)) X dX13_copy_147 (Or.inl ⟨_, dw_w602⟩) dw_in13 rfl (by decide) (by decide) (fun h => dw_E13 h) rfl ?_
      refine e_nn (r := (dw_r Y40 th 6)) (LL := fun _ => [(3, .ref (b + q34)), (2, .int a27.1), (1, .ref (b + q1)), (0, .ref (b + th))]) (SS := fun q => dw_v b q :: [.ref (b + q34)]) (fun r41 => ?_)
      show dw_Rf (tw_cz z ((a27.2.2.1 + 1) + 2) (a27.2.2.2 + 3)) b _ Y40 _ [(3, .ref (b + q34)), (2, .int a27.1), (1, .ref (b + q1)), (0, .ref (b + th))] [.ref (b + r41), .ref (b + q34)]
      refine e_iload_n (z := tw_cz z ((a27.2.2.1 + 1) + 2) (a27.2.2.2 + 3)) X dX13_copy_150 rfl 1 rfl ?_
      refine e_aald (k := r41) (kd := 24) (a := 7) (ty := .object "TreasureWalkLaw$Clue") (z := tw_cz z ((a27.2.2.1 + 1) + 2) (a27.2.2.2 + 3)) X dX13_copy_151 (by decide) (fun h => dw_E24 h) rfl rfl ?_
      refine e_nn (r := (dw_r Y40 r41 (Int32.toNatClampNeg a27.1))) (LL := fun _ => [(3, .ref (b + q34)), (2, .int a27.1), (1, .ref (b + q1)), (0, .ref (b + th))]) (SS := fun q => dw_v b q :: [.ref (b + q34)]) (fun r42 => ?_)
      show dw_Rf (tw_cz z ((a27.2.2.1 + 1) + 2) (a27.2.2.2 + 3)) b _ Y40 _ [(3, .ref (b + q34)), (2, .int a27.1), (1, .ref (b + q1)), (0, .ref (b + th))] [.ref (b + r42), .ref (b + q34)]
      refine e_getf (ci := 12) (T := TX12) (f := 1) (k := r42) (z := tw_cz z ((a27.2.2.1 + 1) + 2) (a27.2.2.2 + 3)) X dX13_copy_152 (Or.inl ⟨_, dw_w670⟩) dw_in12 rfl (by decide) (by decide) (fun h => dw_E12 h) rfl ?_
      refine e_nn (r := (dw_r Y40 r42 1)) (LL := fun _ => [(3, .ref (b + q34)), (2, .int a27.1), (1, .ref (b + q1)), (0, .ref (b + th))]) (SS := fun q => dw_v b q :: [.ref (b + q34)]) (fun r43 => ?_)
      show dw_Rf (tw_cz z ((a27.2.2.1 + 1) + 2) (a27.2.2.2 + 3)) b _ Y40 _ [(3, .ref (b + q34)), (2, .int a27.1), (1, .ref (b + q1)), (0, .ref (b + th))] [.ref (b + r43), .ref (b + q34)]
      show dw_Rf (tw_cz z ((a27.2.2.1 + 1) + 2) (a27.2.2.2 + 3)) b _ Y40 _ [(3, .ref (b + q34)), (2, .int a27.1), (1, .ref (b + q1)), (0, .ref (b + th))] (dw_v b (some r43) :: .ref (b + q34) :: [])
      refine e_put (ci := 12) (T := TX12) (f := 1) (ty := .array (.object "TreasureWalkLaw$Leg")) (k := q34) (z := tw_cz z ((a27.2.2.1 + 1) + 2) (a27.2.2.2 + 3)) X hb dX13_copy_155 (Or.inl ⟨_, dw_w670⟩) dw_in12 tyX12 tyX12_ok nmX12 rfl (by decide) rfl (by decide +kernel) dw_narrow dw_fitsA (by decide) (fun h => dw_F12 h) (Nat.le_of_ble_eq_true rfl) (fun h => dw_p12_1 h) rfl rfl rfl (fun a ha => dw_E_pr ha) (fun Y44 => ?_)
      refine e_aload_n (z := tw_cz z ((a27.2.2.1 + 1) + 2) (a27.2.2.2 + 3)) X dX13_copy_158 rfl 0 rfl ?_
      refine e_aload_n (z := tw_cz z ((a27.2.2.1 + 1) + 2) (a27.2.2.2 + 3)) X dX13_copy_159 rfl 3 rfl ?_
      refine e_getf (ci := 13) (T := TX13) (f := 6) (k := th) (z := tw_cz z ((a27.2.2.1 + 1) + 2) (a27.2.2.2 + 3)) X dX13_copy_160 (Or.inl ⟨_, dw_w602⟩) dw_in13 rfl (by decide) (by decide) (fun h => dw_E13 h) rfl ?_
      refine e_nn (r := (dw_r Y44 th 6)) (LL := fun _ => [(3, .ref (b + q34)), (2, .int a27.1), (1, .ref (b + q1)), (0, .ref (b + th))]) (SS := fun q => dw_v b q :: [.ref (b + q34)]) (fun r45 => ?_)
      show dw_Rf (tw_cz z ((a27.2.2.1 + 1) + 2) (a27.2.2.2 + 3)) b _ Y44 _ [(3, .ref (b + q34)), (2, .int a27.1), (1, .ref (b + q1)), (0, .ref (b + th))] [.ref (b + r45), .ref (b + q34)]
      refine e_iload_n (z := tw_cz z ((a27.2.2.1 + 1) + 2) (a27.2.2.2 + 3)) X dX13_copy_163 rfl 1 rfl ?_
      refine e_aald (k := r45) (kd := 24) (a := 7) (ty := .object "TreasureWalkLaw$Clue") (z := tw_cz z ((a27.2.2.1 + 1) + 2) (a27.2.2.2 + 3)) X dX13_copy_164 (by decide) (fun h => dw_E24 h) rfl rfl ?_
      refine e_nn (r := (dw_r Y44 r45 (Int32.toNatClampNeg a27.1))) (LL := fun _ => [(3, .ref (b + q34)), (2, .int a27.1), (1, .ref (b + q1)), (0, .ref (b + th))]) (SS := fun q => dw_v b q :: [.ref (b + q34)]) (fun r46 => ?_)
      show dw_Rf (tw_cz z ((a27.2.2.1 + 1) + 2) (a27.2.2.2 + 3)) b _ Y44 _ [(3, .ref (b + q34)), (2, .int a27.1), (1, .ref (b + q1)), (0, .ref (b + th))] [.ref (b + r46), .ref (b + q34)]
      refine e_getf (ci := 12) (T := TX12) (f := 2) (k := r46) (z := tw_cz z ((a27.2.2.1 + 1) + 2) (a27.2.2.2 + 3)) X dX13_copy_165 (Or.inl ⟨_, dw_w673⟩) dw_in12 rfl (by decide) (by decide) (fun h => dw_E12 h) rfl ?_
      refine e_ck (fun h01 => ?_)
      show dw_Rf (tw_cz z ((a27.2.2.1 + 1) + 2) (a27.2.2.2 + 3)) b _ Y44 _ [(3, .ref (b + q34)), (2, .int a27.1), (1, .ref (b + q1)), (0, .ref (b + th))] (.int (dw_i Y44 r46 2) :: .ref (b + q34) :: [])
      refine e_put (ci := 12) (T := TX12) (f := 2) (ty := .boolean) (k := q34) (z := tw_cz z ((a27.2.2.1 + 1) + 2) (a27.2.2.2 + 3)) X hb dX13_copy_168 (Or.inl ⟨_, dw_w673⟩) dw_in12 tyX12 tyX12_ok nmX12 rfl (by decide) rfl (by decide +kernel) (dw_nz h01) (dw_fz h01) (by decide) (fun h => dw_F12 h) (Nat.le_of_ble_eq_true rfl) (fun h => dw_p12_2 h) rfl rfl rfl (fun a ha => dw_E_pi ha) (fun Y47 => ?_)
      refine e_aload_n (z := tw_cz z ((a27.2.2.1 + 1) + 2) (a27.2.2.2 + 3)) X dX13_copy_171 rfl 2 rfl ?_
      refine e_getf (ci := 13) (T := TX13) (f := 6) (k := q1) (z := tw_cz z ((a27.2.2.1 + 1) + 2) (a27.2.2.2 + 3)) X dX13_copy_172 (Or.inl ⟨_, dw_w602⟩) dw_in13 rfl (by decide) (by decide) (fun h => dw_E13 h) rfl ?_
      refine e_nn (r := (dw_r Y47 q1 6)) (LL := fun _ => [(3, .ref (b + q34)), (2, .int a27.1), (1, .ref (b + q1)), (0, .ref (b + th))]) (SS := fun q => dw_v b q :: []) (fun r48 => ?_)
      show dw_Rf (tw_cz z ((a27.2.2.1 + 1) + 2) (a27.2.2.2 + 3)) b _ Y47 _ [(3, .ref (b + q34)), (2, .int a27.1), (1, .ref (b + q1)), (0, .ref (b + th))] [.ref (b + r48)]
      refine e_iload_n (z := tw_cz z ((a27.2.2.1 + 1) + 2) (a27.2.2.2 + 3)) X dX13_copy_175 rfl 1 rfl ?_
      refine e_aload_n (z := tw_cz z ((a27.2.2.1 + 1) + 2) (a27.2.2.2 + 3)) X dX13_copy_176 rfl 0 rfl ?_
      show dw_Rf (tw_cz z ((a27.2.2.1 + 1) + 2) (a27.2.2.2 + 3)) b _ Y47 _ [(3, .ref (b + q34)), (2, .int a27.1), (1, .ref (b + q1)), (0, .ref (b + th))] (dw_v b (some q34) :: .int a27.1 :: .ref (b + r48) :: [])
      refine e_aast (k := r48) (kd := 24) (a := 7) (ci := 12) (rc := (RX12, TX12, 3)) (fs := fun v => dw_f12 b Y47 v) (z := tw_cz z ((a27.2.2.1 + 1) + 2) (a27.2.2.2 + 3)) X hb dX13_copy_177 (by decide) (by decide) (fun Y h => dw_E24 h) rfl rfl (fun v h => dw_F12 h) (fun Y49 => ?_)
      refine e_iinc (z := tw_cz z ((a27.2.2.1 + 1) + 2) (a27.2.2.2 + 3)) X dX13_copy_178 1 rfl (v := (1 : Int32)) (by decide) (by decide) (LL := fun v50 => [(2, .int v50), (3, .ref (b + q34)), (1, .ref (b + q1)), (0, .ref (b + th))]) (fun _ => rfl) (fun v50 => ?_)
      refine e_goto (z := tw_cz z ((a27.2.2.1 + 1) + 2) (a27.2.2.2 + 3)) X dX13_copy_181 (tgt := 115) (by decide) ?_
      exact dw_Rf.sub [0, 2, 3] rfl (hk28 (v50, Y49, ((a27.2.2.1 + 1) + 2), (a27.2.2.2 + 3)))
  ·
    refine e_aload_n (z := tw_cz z a19.2.2.1 a19.2.2.2) X dX13_copy_77 rfl 1 rfl ?_
    refine e_getf (ci := 13) (T := TX13) (f := 5) (k := q1) (z := tw_cz z a19.2.2.1 a19.2.2.2) X dX13_copy_78 (Or.inl ⟨_, dw_w600⟩) dw_in13 rfl (by decide) (by decide) (fun h => dw_E13 h) rfl ?_
    refine e_nn (r := (dw_r a19.2.1 q1 5)) (LL := fun _ => [(2, .int a19.1), (1, .ref (b + q1)), (0, .ref (b + th))]) (SS := fun q => dw_v b q :: []) (fun r51 => ?_)
    show dw_Rf (tw_cz z a19.2.2.1 a19.2.2.2) b _ a19.2.1 _ [(2, .int a19.1), (1, .ref (b + q1)), (0, .ref (b + th))] [.ref (b + r51)]
    refine e_iload_n (z := tw_cz z a19.2.2.1 a19.2.2.2) X dX13_copy_81 rfl 0 rfl ?_
    refine e_aload_n (z := tw_cz z a19.2.2.1 a19.2.2.2) X dX13_copy_82 rfl 2 rfl ?_
    refine e_getf (ci := 13) (T := TX13) (f := 5) (k := th) (z := tw_cz z a19.2.2.1 a19.2.2.2) X dX13_copy_83 (Or.inl ⟨_, dw_w600⟩) dw_in13 rfl (by decide) (by decide) (fun h => dw_E13 h) rfl ?_
    refine e_nn (r := (dw_r a19.2.1 th 5)) (LL := fun _ => [(2, .int a19.1), (1, .ref (b + q1)), (0, .ref (b + th))]) (SS := fun q => dw_v b q :: [.int a19.1, .ref (b + r51)]) (fun r52 => ?_)
    show dw_Rf (tw_cz z a19.2.2.1 a19.2.2.2) b _ a19.2.1 _ [(2, .int a19.1), (1, .ref (b + q1)), (0, .ref (b + th))] [.ref (b + r52), .int a19.1, .ref (b + r51)]
    refine e_iload_n (z := tw_cz z a19.2.2.1 a19.2.2.2) X dX13_copy_86 rfl 0 rfl ?_
    refine e_aald (k := r52) (kd := 26) (a := 4) (ty := .array .int) (z := tw_cz z a19.2.2.1 a19.2.2.2) X dX13_copy_87 (by decide) (fun h => dw_E26 h) rfl rfl ?_
    refine e_nn (r := (dw_r a19.2.1 r52 (Int32.toNatClampNeg a19.1))) (LL := fun _ => [(2, .int a19.1), (1, .ref (b + q1)), (0, .ref (b + th))]) (SS := fun q => dw_v b q :: [.int a19.1, .ref (b + r51)]) (fun r53 => ?_)
    show dw_Rf (tw_cz z a19.2.2.1 a19.2.2.2) b _ a19.2.1 _ [(2, .int a19.1), (1, .ref (b + q1)), (0, .ref (b + th))] [.ref (b + r53), .int a19.1, .ref (b + r51)]
    refine e_clone (k := r53) (kd := 20) (a := 0) (ty := .int) (c := a19.2.2.1) (s := a19.2.2.2) (z := tw_cz z a19.2.2.1 a19.2.2.2) X ⟨rfl, rfl⟩ ⟨eMC, eMS⟩ dX13_copy_88 _ dw_w655 (List.mem_of_getElem? dw_w656) (List.mem_of_getElem? dw_w650) (List.mem_of_getElem? dw_w651) (List.mem_of_getElem? dw_w657) hA.2.2.2.2.1 (by decide) (fun Y k h => dw_E20 h) rfl (va_nm_int ((X.K.2 0 _ rfl).2)) (tw_le hfr rfl) (Nat.le_trans (Nat.le_of_ble_eq_true rfl) (tw_le hlo (c := 30) rfl)) (fun q54 Y55 => ?_)
    show dw_Rf (tw_cz z (a19.2.2.1 + 1) (a19.2.2.2 + (dw_l a19.2.1 r53))) b _ Y55 _ [(2, .int a19.1), (1, .ref (b + q1)), (0, .ref (b + th))] [.ref (b + q54), .int a19.1, .ref (b + r51)]
    refine e_castA (kd := 20) (a := 0) (z := tw_cz z (a19.2.2.1 + 1) (a19.2.2.2 + (dw_l a19.2.1 r53))) X dX13_copy_91 _ dw_w586 (by decide) (fun h => dw_E20 h) (va_nm_int ((X.K.2 0 _ rfl).2)) ?_
    refine e_aastA (k := r51) (z := tw_cz z (a19.2.2.1 + 1) (a19.2.2.2 + (dw_l a19.2.1 r53))) X hb hA.2.2.1.1 dX13_copy_94 (fun Y56 => ?_)
    refine e_iinc (z := tw_cz z (a19.2.2.1 + 1) (a19.2.2.2 + (dw_l a19.2.1 r53))) X dX13_copy_95 0 rfl (v := (1 : Int32)) (by decide) (by decide) (LL := fun v57 => [(2, .int v57), (1, .ref (b + q1)), (0, .ref (b + th))]) (fun _ => rfl) (fun v57 => ?_)
    refine e_goto (z := tw_cz z (a19.2.2.1 + 1) (a19.2.2.2 + (dw_l a19.2.1 r53))) X dX13_copy_98 (tgt := 68) (by decide) ?_
    exact hk20 (v57, Y56, (a19.2.2.1 + 1), (a19.2.2.2 + (dw_l a19.2.1 r53)))
def dw_P_L_with (n : Nat) (r0 : Nat) (x1 : Int32) (Y : dw_S) (Q : Nat × dw_S → Prop) : Prop :=
pw_ck (dw_is Y r0 20) (
pw_ck ((¬ ((Int32.ofNat (dw_l Y r0)) + (1 : Int32)) < 0 ∧ (Int32.toNatClampNeg ((Int32.ofNat (dw_l Y r0)) + (1 : Int32))) ≤ 10000) ∧ 1 ≤ 1 ∧ (0 + (Int32.toNatClampNeg ((Int32.ofNat (dw_l Y r0)) + (1 : Int32)))) ≤ 8) (
pw_al (dw_n Y) (fun (q1 : Nat) => pw_lt (dw_nw Y q1 20 (Int32.toNatClampNeg ((Int32.ofNat (dw_l Y r0)) + (1 : Int32))) (fun _ => 0) (fun _ => none)) (fun (Y2 : dw_S) =>
pw_lt (0 : Int32) (fun (v3 : Int32) =>
pw_lp (fun (k5 : (Int32 × dw_S) → Prop) (a4 : Int32 × dw_S) =>
pw_ck (dw_is a4.2 r0 20) (
if (Int32.ofNat (dw_l a4.2 r0)) ≤ a4.1 then (pw_ck (dw_is a4.2 r0 20) (
pw_ck (dw_is a4.2 q1 20 ∧ tw_ok (Int32.ofNat (dw_l a4.2 r0)) (dw_l a4.2 q1) = true) (pw_lt (dw_pi a4.2 q1 (Int32.toNatClampNeg (Int32.ofNat (dw_l a4.2 r0))) x1) (fun (Y6 : dw_S) =>
pw_ck (1 ≤ 1 ∧ (0 + (Int32.toNatClampNeg ((Int32.ofNat (dw_l Y r0)) + (1 : Int32)))) ≤ 8) (Q (q1, Y6))))))
else (pw_ck (dw_is a4.2 r0 20 ∧ tw_ok a4.1 (dw_l a4.2 r0) = true) (
pw_ck (dw_is a4.2 q1 20 ∧ tw_ok a4.1 (dw_l a4.2 q1) = true) (pw_lt (dw_pi a4.2 q1 (Int32.toNatClampNeg a4.1) (dw_i a4.2 r0 (Int32.toNatClampNeg a4.1))) (fun (Y7 : dw_S) =>
pw_lt (a4.1 + (1 : Int32)) (fun (v8 : Int32) =>
k5 (v8, Y7)))))))) n (v3, Y2))))))
theorem dw_y_L_with : tw_My yL_with cL_with 4 (some (.array .int)) 2 := ⟨List.mem_of_getElem? dw_w1507, List.mem_of_getElem? dw_w35, by decide +kernel, by decide +kernel, by decide +kernel⟩
theorem dw_v_L_with : tw_Ms yL_with := List.mem_of_getElem? dw_w1506
set_option maxRecDepth 100000 in
set_option maxHeartbeats 4000000 in
theorem dw_m_L_with {l : Launch} {b : Nat} {D : tw_G} {C : Nat → ClassId} {S : Nat → Nat} (hD : D.2 = []) {n : Nat} {r0 : Nat} {x1 : Int32} {Y : dw_S} {Q : Nat × dw_S → Prop}  (h : dw_P_L_with n r0 x1 Y Q) : dw_Met l b D C S yL_with cL_with 4 (some (.array .int)) ({ frames := 0, cells := 1, slots := 8, locals := 0 } : Room) [.ref (b + r0), .int x1] Y (fun r => some (.ref (b + r.1))) (fun r => r.2) Q := by
  refine dw_metOf (dw_P_L_with n r0 x1 Y Q) h _ _ Q (by decide +kernel) (Nat.le_of_ble_eq_true rfl) ?_
  intro z el eB eD eC eS eR X hA hnm hret hQ
  subst el eD eC eS
  have hb : tw_zB z ≤ b := Nat.le_of_eq eB
  have hA : dw_AK (tw_zB z) (tw_zS z) (tw_zs z) := by rw [eB]; exact hA
  have hfr : (tw_zR z).frames = 0 := by rw [eR]
  have hlo : (tw_zR z).locals = 0 := by rw [eR]
  have eMC : (tw_zR z).cells = 1 := by rw [eR]
  have eMS : (tw_zR z).slots = 8 := by rw [eR]
  have X : tw_X z cL_with "TreasureWalkLaw" 4 := X
  show dw_Rf (tw_cz z 0 0) b _ Y 0 [(0, .ref (b + r0)), (1, .int x1)] []
  unfold dw_P_L_with
  refine e_aload_n (z := tw_cz z 0 0) X dL_with_0 rfl 0 rfl ?_
  refine e_alen (k := r0) (kd := 20) (a := 0) (ty := .int) (x := (0, .inl (dw_i Y r0))) (z := tw_cz z 0 0) X dL_with_1 (by decide) (fun h => dw_E20 h) rfl ?_
  refine e_iconst (z := tw_cz z 0 0) X dL_with_2 (v := (1 : Int32)) (by decide) ?_
  refine e_iadd (z := tw_cz z 0 0) X dL_with_3 ?_
  refine e_newi (c := 0) (s := 0) (z := tw_cz z 0 0) X ⟨rfl, rfl⟩ ⟨eMC, eMS⟩ dL_with_4 hA.1.1 (fun q1 Y2 => ?_)
  show dw_Rf (tw_cz z 1 (0 + (Int32.toNatClampNeg ((Int32.ofNat (dw_l Y r0)) + (1 : Int32))))) b _ Y2 _ [(0, .ref (b + r0)), (1, .int x1)] [.ref (b + q1)]
  refine e_astore_n (z := tw_cz z 1 (0 + (Int32.toNatClampNeg ((Int32.ofNat (dw_l Y r0)) + (1 : Int32))))) X dL_with_6 rfl (by decide) (L' := [(2, .ref (b + q1)), (0, .ref (b + r0)), (1, .int x1)]) rfl ?_
  refine e_iconst (z := tw_cz z 1 (0 + (Int32.toNatClampNeg ((Int32.ofNat (dw_l Y r0)) + (1 : Int32))))) X dL_with_7 (v := (0 : Int32)) (by decide) ?_
  refine e_istore_n (z := tw_cz z 1 (0 + (Int32.toNatClampNeg ((Int32.ofNat (dw_l Y r0)) + (1 : Int32))))) X dL_with_8 rfl (by decide) (LL := fun v3 => [(3, .int v3), (2, .ref (b + q1)), (0, .ref (b + r0)), (1, .int x1)]) (fun _ => rfl) (fun v3 => ?_)
  refine e_lp (α := Int32 × dw_S) (zJ := fun a4 => tw_cz z 1 (0 + (Int32.toNatClampNeg ((Int32.ofNat (dw_l Y r0)) + (1 : Int32))))) (YJ := fun a4 => a4.2) (pcJ := 9) (LJ := fun a4 => [(3, .int a4.1), (2, .ref (b + q1)), (0, .ref (b + r0)), (1, .int x1)]) (stJ := fun a4 => []) (fun k5 hk5 a4 => ?_) n (v3, Y2)
  refine e_iload_n (z := tw_cz z 1 (0 + (Int32.toNatClampNeg ((Int32.ofNat (dw_l Y r0)) + (1 : Int32))))) X dL_with_9 rfl 0 rfl ?_
  refine e_aload_n (z := tw_cz z 1 (0 + (Int32.toNatClampNeg ((Int32.ofNat (dw_l Y r0)) + (1 : Int32))))) X dL_with_10 rfl 2 rfl ?_
  refine e_alen (k := r0) (kd := 20) (a := 0) (ty := .int) (x := (0, .inl (dw_i a4.2 r0))) (z := tw_cz z 1 (0 + (Int32.toNatClampNeg ((Int32.ofNat (dw_l Y r0)) + (1 : Int32))))) X dL_with_11 (by decide) (fun h => dw_E20 h) rfl ?_
  refine e_icmp_ge (z := tw_cz z 1 (0 + (Int32.toNatClampNeg ((Int32.ofNat (dw_l Y r0)) + (1 : Int32))))) X dL_with_12 (tgt := 27) (by decide) ?_ ?_
  ·
    refine e_aload_n (z := tw_cz z 1 (0 + (Int32.toNatClampNeg ((Int32.ofNat (dw_l Y r0)) + (1 : Int32))))) X dL_with_27 rfl 1 rfl ?_
    refine e_aload_n (z := tw_cz z 1 (0 + (Int32.toNatClampNeg ((Int32.ofNat (dw_l Y r0)) + (1 : Int32))))) X dL_with_28 rfl 2 rfl ?_
    refine e_alen (k := r0) (kd := 20) (a := 0) (ty := .int) (x := (0, .inl (dw_i a4.2 r0))) (z := tw_cz z 1 (0 + (Int32.toNatClampNeg ((Int32.ofNat (dw_l Y r0)) + (1 : Int32))))) X dL_with_29 (by decide) (fun h => dw_E20 h) rfl ?_
    refine e_iload_n (z := tw_cz z 1 (0 + (Int32.toNatClampNeg ((Int32.ofNat (dw_l Y r0)) + (1 : Int32))))) X dL_with_30 rfl 3 rfl ?_
    refine e_iast (k := q1) (z := tw_cz z 1 (0 + (Int32.toNatClampNeg ((Int32.ofNat (dw_l Y r0)) + (1 : Int32))))) X hb dL_with_31 (fun Y6 => ?_)
    refine e_aload_n (z := tw_cz z 1 (0 + (Int32.toNatClampNeg ((Int32.ofNat (dw_l Y r0)) + (1 : Int32))))) X dL_with_32 rfl 1 rfl ?_
    exact e_aret (z := z) X eB dL_with_33 hret (Or.inr ⟨_, rfl⟩) (Or.inr ⟨_, rfl⟩) ⟨eMC, eMS⟩ hQ rfl rfl
  ·
    refine e_aload_n (z := tw_cz z 1 (0 + (Int32.toNatClampNeg ((Int32.ofNat (dw_l Y r0)) + (1 : Int32))))) X dL_with_15 rfl 1 rfl ?_
    refine e_iload_n (z := tw_cz z 1 (0 + (Int32.toNatClampNeg ((Int32.ofNat (dw_l Y r0)) + (1 : Int32))))) X dL_with_16 rfl 0 rfl ?_
    refine e_aload_n (z := tw_cz z 1 (0 + (Int32.toNatClampNeg ((Int32.ofNat (dw_l Y r0)) + (1 : Int32))))) X dL_with_17 rfl 2 rfl ?_
    refine e_iload_n (z := tw_cz z 1 (0 + (Int32.toNatClampNeg ((Int32.ofNat (dw_l Y r0)) + (1 : Int32))))) X dL_with_18 rfl 0 rfl ?_
    refine e_iald (k := r0) (z := tw_cz z 1 (0 + (Int32.toNatClampNeg ((Int32.ofNat (dw_l Y r0)) + (1 : Int32))))) X dL_with_19 ?_
    refine e_iast (k := q1) (z := tw_cz z 1 (0 + (Int32.toNatClampNeg ((Int32.ofNat (dw_l Y r0)) + (1 : Int32))))) X hb dL_with_20 (fun Y7 => ?_)
    refine e_iinc (z := tw_cz z 1 (0 + (Int32.toNatClampNeg ((Int32.ofNat (dw_l Y r0)) + (1 : Int32))))) X dL_with_21 0 rfl (v := (1 : Int32)) (by decide) (by decide) (LL := fun v8 => [(3, .int v8), (2, .ref (b + q1)), (0, .ref (b + r0)), (1, .int x1)]) (fun _ => rfl) (fun v8 => ?_)
    refine e_goto (z := tw_cz z 1 (0 + (Int32.toNatClampNeg ((Int32.ofNat (dw_l Y r0)) + (1 : Int32))))) X dL_with_24 (tgt := 9) (by decide) ?_
    exact hk5 (v8, Y7)
