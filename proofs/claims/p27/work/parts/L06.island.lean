theorem dw_w50 : lw_tbl[50]? = some ((Jvm.Cond.initialized "TreasureWalkLaw$Island")) := by decide +kernel
theorem dw_w590 : lw_tbl[590]? = some ((Jvm.Cond.fieldLink "TreasureWalkLaw$Island" (7 : Nat) "TreasureWalkLaw$Island" "width" "I")) := by decide +kernel
theorem dw_w592 : lw_tbl[592]? = some ((Jvm.Cond.fieldLink "TreasureWalkLaw$Island" (13 : Nat) "TreasureWalkLaw$Island" "height" "I")) := by decide +kernel
theorem dw_w594 : lw_tbl[594]? = some ((Jvm.Cond.fieldLink "TreasureWalkLaw$Island" (16 : Nat) "TreasureWalkLaw$Island" "isWater" "[Z")) := by decide +kernel
theorem dw_w596 : lw_tbl[596]? = some ((Jvm.Cond.fieldLink "TreasureWalkLaw$Island" (20 : Nat) "TreasureWalkLaw$Island" "isDug" "[Z")) := by decide +kernel
theorem dw_w598 : lw_tbl[598]? = some ((Jvm.Cond.fieldLink "TreasureWalkLaw$Island" (23 : Nat) "TreasureWalkLaw$Island" "marks" "[I")) := by decide +kernel
theorem dw_w600 : lw_tbl[600]? = some ((Jvm.Cond.fieldLink "TreasureWalkLaw$Island" (28 : Nat) "TreasureWalkLaw$Island" "bends" "[[I")) := by decide +kernel
theorem dw_w604 : lw_tbl[604]? = some ((Jvm.Cond.fieldLink "TreasureWalkLaw$Island" (60 : Nat) "TreasureWalkLaw$Island" "team" "I")) := by decide +kernel
theorem dw_w608 : lw_tbl[608]? = some ((Jvm.Cond.fieldLink "TreasureWalkLaw$Island" (66 : Nat) "TreasureWalkLaw$Island" "chest" "I")) := by decide +kernel
theorem dw_w610 : lw_tbl[610]? = some ((Jvm.Cond.fieldLink "TreasureWalkLaw$Island" (69 : Nat) "TreasureWalkLaw$Island" "chestCell" "I")) := by decide +kernel
theorem dw_w702 : lw_tbl[702]? = some ((Jvm.Cond.instanceMethod ({ cls := "TreasureWalkLaw$Island", name := "behind", desc := "(LTreasureWalkLaw$Leg;II)I" } : Jvm.MethodName))) := by decide +kernel
theorem dw_w703 : lw_tbl[703]? = some ((Jvm.Cond.selects "TreasureWalkLaw$Island" ({ cls := "TreasureWalkLaw$Island", name := "behind", desc := "(LTreasureWalkLaw$Leg;II)I" } : Jvm.MethodName) ({ cls := "TreasureWalkLaw$Island", name := "behind", desc := "(LTreasureWalkLaw$Leg;II)I" } : Jvm.MethodName))) := by decide +kernel
theorem dw_w704 : lw_tbl[704]? = some ((Jvm.Cond.code ({ cls := "TreasureWalkLaw$Island", name := "behind", desc := "(LTreasureWalkLaw$Leg;II)I" } : Jvm.MethodName) prog_15_method_5_code (6 : Nat) (Option.some Jvm.ClassFile.FieldType.int))) := by decide +kernel
theorem dw_w705 : lw_tbl[705]? = some ((Jvm.Cond.methodLink "TreasureWalkLaw$Island" (87 : Nat) ({ cls := "TreasureWalkLaw$Island", name := "step", desc := "(II)I" } : Jvm.MethodName))) := by decide +kernel
theorem dw_w706 : lw_tbl[706]? = some ((Jvm.Cond.instanceMethod ({ cls := "TreasureWalkLaw$Island", name := "step", desc := "(II)I" } : Jvm.MethodName))) := by decide +kernel
theorem dw_w707 : lw_tbl[707]? = some ((Jvm.Cond.selects "TreasureWalkLaw$Island" ({ cls := "TreasureWalkLaw$Island", name := "step", desc := "(II)I" } : Jvm.MethodName) ({ cls := "TreasureWalkLaw$Island", name := "step", desc := "(II)I" } : Jvm.MethodName))) := by decide +kernel
theorem dw_w708 : lw_tbl[708]? = some ((Jvm.Cond.code ({ cls := "TreasureWalkLaw$Island", name := "step", desc := "(II)I" } : Jvm.MethodName) prog_15_method_4_code (8 : Nat) (Option.some Jvm.ClassFile.FieldType.int))) := by decide +kernel
theorem dw_w709 : lw_tbl[709]? = some ((Jvm.Cond.methodLink "TreasureWalkLaw$Island" (72 : Nat) ({ cls := "TreasureWalkLaw$Island", name := "neighbour", desc := "(II)I" } : Jvm.MethodName))) := by decide +kernel
theorem dw_w710 : lw_tbl[710]? = some ((Jvm.Cond.instanceMethod ({ cls := "TreasureWalkLaw$Island", name := "neighbour", desc := "(II)I" } : Jvm.MethodName))) := by decide +kernel
theorem dw_w711 : lw_tbl[711]? = some ((Jvm.Cond.selects "TreasureWalkLaw$Island" ({ cls := "TreasureWalkLaw$Island", name := "neighbour", desc := "(II)I" } : Jvm.MethodName) ({ cls := "TreasureWalkLaw$Island", name := "neighbour", desc := "(II)I" } : Jvm.MethodName))) := by decide +kernel
theorem dw_w712 : lw_tbl[712]? = some ((Jvm.Cond.code ({ cls := "TreasureWalkLaw$Island", name := "neighbour", desc := "(II)I" } : Jvm.MethodName) prog_15_method_3_code (7 : Nat) (Option.some Jvm.ClassFile.FieldType.int))) := by decide +kernel
theorem dw_w713 : lw_tbl[713]? = some ((Jvm.Cond.methodLink "TreasureWalkLaw$Island" (90 : Nat) ({ cls := "java/lang/Math", name := "abs", desc := "(I)I" } : Jvm.MethodName))) := by decide +kernel
theorem dw_w717 : lw_tbl[717]? = some ((Jvm.Cond.static ({ cls := "TreasureWalkLaw$Island", name := "many", desc := "([Z)I" } : Jvm.MethodName))) := by decide +kernel
theorem dw_w718 : lw_tbl[718]? = some ((Jvm.Cond.code ({ cls := "TreasureWalkLaw$Island", name := "many", desc := "([Z)I" } : Jvm.MethodName) prog_15_method_10_code (6 : Nat) (Option.some Jvm.ClassFile.FieldType.int))) := by decide +kernel
theorem dw_w720 : lw_tbl[720]? = some ((Jvm.Cond.instanceMethod ({ cls := "TreasureWalkLaw$Island", name := "far", desc := "(I[Z)[I" } : Jvm.MethodName))) := by decide +kernel
theorem dw_w721 : lw_tbl[721]? = some ((Jvm.Cond.selects "TreasureWalkLaw$Island" ({ cls := "TreasureWalkLaw$Island", name := "far", desc := "(I[Z)[I" } : Jvm.MethodName) ({ cls := "TreasureWalkLaw$Island", name := "far", desc := "(I[Z)[I" } : Jvm.MethodName))) := by decide +kernel
theorem dw_w722 : lw_tbl[722]? = some ((Jvm.Cond.code ({ cls := "TreasureWalkLaw$Island", name := "far", desc := "(I[Z)[I" } : Jvm.MethodName) prog_15_method_11_code (8 : Nat) (Option.some (Jvm.ClassFile.FieldType.array Jvm.ClassFile.FieldType.int)))) := by decide +kernel
theorem dw_w724 : lw_tbl[724]? = some ((Jvm.Cond.instanceMethod ({ cls := "TreasureWalkLaw$Island", name := "digs", desc := "()I" } : Jvm.MethodName))) := by decide +kernel
theorem dw_w725 : lw_tbl[725]? = some ((Jvm.Cond.selects "TreasureWalkLaw$Island" ({ cls := "TreasureWalkLaw$Island", name := "digs", desc := "()I" } : Jvm.MethodName) ({ cls := "TreasureWalkLaw$Island", name := "digs", desc := "()I" } : Jvm.MethodName))) := by decide +kernel
theorem dw_w726 : lw_tbl[726]? = some ((Jvm.Cond.code ({ cls := "TreasureWalkLaw$Island", name := "digs", desc := "()I" } : Jvm.MethodName) prog_15_method_15_code (1 : Nat) (Option.some Jvm.ClassFile.FieldType.int))) := by decide +kernel
theorem dw_w1516 : lw_tbl[1516]? = some ((Jvm.Cond.fieldLink "TreasureWalkLaw$Island" (76 : Nat) "TreasureWalkLaw$Leg" "kind" "I")) := by decide +kernel
theorem dw_w1518 : lw_tbl[1518]? = some ((Jvm.Cond.fieldLink "TreasureWalkLaw$Island" (81 : Nat) "TreasureWalkLaw$Leg" "many" "I")) := by decide +kernel
theorem dw_w1520 : lw_tbl[1520]? = some ((Jvm.Cond.fieldLink "TreasureWalkLaw$Island" (96 : Nat) "TreasureWalkLaw$Leg" "give" "I")) := by decide +kernel
theorem dw_w1522 : lw_tbl[1522]? = some ((Jvm.Cond.fieldLink "TreasureWalkLaw$Island" (84 : Nat) "TreasureWalkLaw$Leg" "bearing" "I")) := by decide +kernel
def dw_tc (x : Int32) : Nat := if x = 6 ∨ x = 7 ∨ x = 9 then 126 else 0
def dw_ts (x : Int32) : Nat := if x = 6 ∨ x = 7 ∨ x = 9 then 9504 else 0
def dw_P_X13_neighbour (th : Nat) (x0 : Int32) (x1 : Int32) (Y : dw_S) (Q : Int32 → Prop) : Prop :=
tw_jn (fun (a1 : Int32) =>
pw_lt a1 (fun (v3 : Int32) =>
tw_jn (fun (a4 : Int32) =>
pw_lt a4 (fun (v6 : Int32) =>
pw_ck (dw_is Y th 13) (
pw_ck (¬ (dw_i Y th 0) = 0) (
pw_lt ((x0 - x0 / (dw_i Y th 0) * (dw_i Y th 0)) + v3) (fun (v7 : Int32) =>
pw_ck (dw_is Y th 13) (
pw_ck (¬ (dw_i Y th 0) = 0) (
pw_lt ((x0 / (dw_i Y th 0)) + v6) (fun (v8 : Int32) =>
tw_jn (fun (a9 : Unit) =>
Q (-1 : Int32)) (fun (j10 : (Unit) → Prop) =>
if v7 < 0 then (j10 ())
else (if v8 < 0 then (j10 ())
else (pw_ck (dw_is Y th 13) (
if (dw_i Y th 0) ≤ v7 then (j10 ())
else (pw_ck (dw_is Y th 13) (
if v8 < (dw_i Y th 1) then (pw_ck (dw_is Y th 13) (
pw_nn (dw_r Y th 2) (fun (r11 : Nat) =>
pw_ck (dw_is Y th 13) (
pw_ck (dw_is Y r11 21 ∧ tw_ok ((v8 * (dw_i Y th 0)) + v7) (dw_l Y r11) = true) (
tw_jn (fun (a12 : Int32) =>
Q a12) (fun (j13 : (Int32) → Prop) =>
if (dw_i Y r11 (Int32.toNatClampNeg ((v8 * (dw_i Y th 0)) + v7))) = 0 then (pw_ck (dw_is Y th 13) (
j13 ((v8 * (dw_i Y th 0)) + v7)))
else (j13 (-1 : Int32))))))))
else (j10 ()))))))))))))))) (fun (j5 : (Int32) → Prop) =>
tw_jn (fun (a14 : Unit) =>
j5 (1 : Int32)) (fun (j15 : (Unit) → Prop) =>
if x1 = (3 : Int32) then (j15 ())
else (if x1 = (4 : Int32) then (j15 ())
else (if ¬ x1 = (5 : Int32) then (tw_jn (fun (a16 : Unit) =>
j5 (0 : Int32)) (fun (j17 : (Unit) → Prop) =>
if x1 = (2 : Int32) then (j17 ())
else (if ¬ x1 = (6 : Int32) then (j5 (-1 : Int32))
else (j17 ()))))
else (j15 ()))))))) (fun (j2 : (Int32) → Prop) =>
tw_jn (fun (a18 : Unit) =>
j2 (1 : Int32)) (fun (j19 : (Unit) → Prop) =>
if x1 = (1 : Int32) then (j19 ())
else (if x1 = (2 : Int32) then (j19 ())
else (if ¬ x1 = (3 : Int32) then (if x1 ≤ (4 : Int32) then (j2 (0 : Int32))
else (j2 (-1 : Int32)))
else (j19 ())))))
theorem dw_y_X13_neighbour : tw_My yX13_neighbour cX13_neighbour 7 (some .int) 2 := ⟨List.mem_of_getElem? dw_w712, List.mem_of_getElem? dw_w50, by decide +kernel, by decide +kernel, by decide +kernel⟩
theorem dw_v_X13_neighbour : dw_Mv yX13_neighbour "TreasureWalkLaw$Island" := ⟨List.mem_of_getElem? dw_w710, List.mem_of_getElem? dw_w711⟩
set_option maxRecDepth 100000 in
set_option maxHeartbeats 4000000 in
theorem dw_m_X13_neighbour {l : Launch} {b : Nat} {D : tw_G} {C : Nat → ClassId} {S : Nat → Nat} (hD : D.2 = []) {th : Nat} {x0 : Int32} {x1 : Int32} {Y : dw_S} {Q : Int32 → Prop}  (h : dw_P_X13_neighbour th x0 x1 Y Q) : dw_Met l b D C S yX13_neighbour cX13_neighbour 7 (some .int) ({ frames := 0, cells := 0, slots := 0, locals := 0 } : Room) [.ref (b + th), .int x0, .int x1] Y (fun r => some (.int r)) (fun _ => Y) Q := by
  refine dw_metOf (dw_P_X13_neighbour th x0 x1 Y Q) h _ _ Q (by decide +kernel) (Nat.le_of_ble_eq_true rfl) ?_
  intro z el eB eD eC eS eR X hA hnm hret hQ
  subst el eD eC eS
  have hb : tw_zB z ≤ b := Nat.le_of_eq eB
  have hA : dw_AK (tw_zB z) (tw_zS z) (tw_zs z) := by rw [eB]; exact hA
  have hfr : (tw_zR z).frames = 0 := by rw [eR]
  have hlo : (tw_zR z).locals = 0 := by rw [eR]
  have eMC : (tw_zR z).cells = 0 := by rw [eR]
  have eMS : (tw_zR z).slots = 0 := by rw [eR]
  have X : tw_X z cX13_neighbour "TreasureWalkLaw$Island" 7 := X
  show dw_Rf (tw_cz z 0 0) b _ Y 0 [(0, .ref (b + th)), (1, .int x0), (2, .int x1)] []
  unfold dw_P_X13_neighbour
  refine e_iload_n (z := tw_cz z 0 0) X dX13_neighbour_0 rfl 2 rfl ?_
  refine e_iconst (z := tw_cz z 0 0) X dX13_neighbour_1 (v := (1 : Int32)) (by decide) ?_
  refine e_jn (α := Int32) (zJ := fun a1 => tw_cz z 0 0) (YJ := fun a1 => Y) (pcJ := 29) (LJ := fun a1 => [(0, .ref (b + th)), (1, .int x0), (2, .int x1)]) (stJ := fun a1 => [.int a1]) (fun a1 => ?_) (fun j2 hj2 => ?_)
  ·
    refine e_istore_n (z := tw_cz z 0 0) X dX13_neighbour_29 rfl (by decide) (LL := fun v3 => [(3, .int v3), (0, .ref (b + th)), (1, .int x0), (2, .int x1)]) (fun _ => rfl) (fun v3 => ?_)
    refine e_iload_n (z := tw_cz z 0 0) X dX13_neighbour_30 rfl 3 rfl ?_
    refine e_iconst (z := tw_cz z 0 0) X dX13_neighbour_31 (v := (3 : Int32)) (by decide) ?_
    refine e_jn (α := Int32) (zJ := fun a4 => tw_cz z 0 0) (YJ := fun a4 => Y) (pcJ := 65) (LJ := fun a4 => [(3, .int v3), (0, .ref (b + th)), (1, .int x0)]) (stJ := fun a4 => [.int a4]) (fun a4 => ?_) (fun j5 hj5 => ?_)
    ·
      refine e_istore (z := tw_cz z 0 0) X dX13_neighbour_65 (by decide) (LL := fun v6 => [(4, .int v6), (3, .int v3), (0, .ref (b + th)), (1, .int x0)]) (fun _ => rfl) (fun v6 => ?_)
      refine e_iload_n (z := tw_cz z 0 0) X dX13_neighbour_67 rfl 3 rfl ?_
      refine e_aload_n (z := tw_cz z 0 0) X dX13_neighbour_68 rfl 2 rfl ?_
      refine e_getf (ci := 13) (T := TX13) (f := 0) (k := th) (z := tw_cz z 0 0) X dX13_neighbour_69 (Or.inl ⟨_, dw_w590⟩) dw_in13 rfl (by decide) (by decide) (fun h => dw_E13 h) rfl ?_
      refine e_irem (z := tw_cz z 0 0) X dX13_neighbour_72 ?_
      refine e_iload_n (z := tw_cz z 0 0) X dX13_neighbour_73 rfl 1 rfl ?_
      refine e_iadd (z := tw_cz z 0 0) X dX13_neighbour_74 ?_
      refine e_istore (z := tw_cz z 0 0) X dX13_neighbour_75 (by decide) (LL := fun v7 => [(5, .int v7), (4, .int v6), (3, .int v3), (0, .ref (b + th)), (1, .int x0)]) (fun _ => rfl) (fun v7 => ?_)
      refine e_iload_n (z := tw_cz z 0 0) X dX13_neighbour_77 rfl 4 rfl ?_
      refine e_aload_n (z := tw_cz z 0 0) X dX13_neighbour_78 rfl 3 rfl ?_
      refine e_getf (ci := 13) (T := TX13) (f := 0) (k := th) (z := tw_cz z 0 0) X dX13_neighbour_79 (Or.inl ⟨_, dw_w590⟩) dw_in13 rfl (by decide) (by decide) (fun h => dw_E13 h) rfl ?_
      refine e_idiv (z := tw_cz z 0 0) X dX13_neighbour_82 ?_
      refine e_iload (z := tw_cz z 0 0) X dX13_neighbour_83 1 rfl ?_
      refine e_iadd (z := tw_cz z 0 0) X dX13_neighbour_85 ?_
      refine e_istore (z := tw_cz z 0 0) X dX13_neighbour_86 (by decide) (LL := fun v8 => [(6, .int v8), (5, .int v7), (4, .int v6), (3, .int v3), (0, .ref (b + th)), (1, .int x0)]) (fun _ => rfl) (fun v8 => ?_)
      refine e_iload (z := tw_cz z 0 0) X dX13_neighbour_88 1 rfl ?_
      refine e_jn (α := Unit) (zJ := fun a9 => tw_cz z 0 0) (YJ := fun a9 => Y) (pcJ := 116) (LJ := fun a9 => []) (stJ := fun a9 => []) (fun a9 => ?_) (fun j10 hj10 => ?_)
      ·
        refine e_iconst (z := tw_cz z 0 0) X dX13_neighbour_116 (v := (-1 : Int32)) (by decide) ?_
        exact dw_ckp (by exact ⟨Nat.le_of_ble_eq_true rfl, Nat.le_of_ble_eq_true rfl⟩) (e_iret (z := z) X eB dX13_neighbour_117 hret ⟨eMC, eMS⟩ hQ rfl rfl)
      refine e_if_lt (z := tw_cz z 0 0) X dX13_neighbour_90 (tgt := 116) (by decide) ?_ ?_
      ·
        exact dw_Rf.sub [] rfl (hj10 ())
      ·
        refine e_iload (z := tw_cz z 0 0) X dX13_neighbour_93 0 rfl ?_
        refine e_if_lt (z := tw_cz z 0 0) X dX13_neighbour_95 (tgt := 116) (by decide) ?_ ?_
        ·
          exact dw_Rf.sub [] rfl (hj10 ())
        ·
          refine e_iload (z := tw_cz z 0 0) X dX13_neighbour_98 1 rfl ?_
          refine e_aload_n (z := tw_cz z 0 0) X dX13_neighbour_100 rfl 4 rfl ?_
          refine e_getf (ci := 13) (T := TX13) (f := 0) (k := th) (z := tw_cz z 0 0) X dX13_neighbour_101 (Or.inl ⟨_, dw_w590⟩) dw_in13 rfl (by decide) (by decide) (fun h => dw_E13 h) rfl ?_
          refine e_icmp_ge (z := tw_cz z 0 0) X dX13_neighbour_104 (tgt := 116) (by decide) ?_ ?_
          ·
            exact dw_Rf.sub [] rfl (hj10 ())
          ·
            refine e_iload (z := tw_cz z 0 0) X dX13_neighbour_107 0 rfl ?_
            refine e_aload_n (z := tw_cz z 0 0) X dX13_neighbour_109 rfl 4 rfl ?_
            refine e_getf (ci := 13) (T := TX13) (f := 1) (k := th) (z := tw_cz z 0 0) X dX13_neighbour_110 (Or.inl ⟨_, dw_w592⟩) dw_in13 rfl (by decide) (by decide) (fun h => dw_E13 h) rfl ?_
            refine e_icmp_lt (z := tw_cz z 0 0) X dX13_neighbour_113 (tgt := 118) (by decide) ?_ ?_
            ·
              refine e_aload_n (z := tw_cz z 0 0) X dX13_neighbour_118 rfl 4 rfl ?_
              refine e_getf (ci := 13) (T := TX13) (f := 2) (k := th) (z := tw_cz z 0 0) X dX13_neighbour_119 (Or.inl ⟨_, dw_w594⟩) dw_in13 rfl (by decide) (by decide) (fun h => dw_E13 h) rfl ?_
              refine e_nn (r := (dw_r Y th 2)) (LL := fun _ => [(6, .int v8), (5, .int v7), (4, .int v6), (3, .int v3), (0, .ref (b + th)), (1, .int x0)]) (SS := fun q => dw_v b q :: []) (fun r11 => ?_)
              show dw_Rf (tw_cz z 0 0) b _ Y _ [(6, .int v8), (5, .int v7), (4, .int v6), (3, .int v3), (0, .ref (b + th)), (1, .int x0)] [.ref (b + r11)]
              refine e_iload (z := tw_cz z 0 0) X dX13_neighbour_122 0 rfl ?_
              refine e_aload_n (z := tw_cz z 0 0) X dX13_neighbour_124 rfl 4 rfl ?_
              refine e_getf (ci := 13) (T := TX13) (f := 0) (k := th) (z := tw_cz z 0 0) X dX13_neighbour_125 (Or.inl ⟨_, dw_w590⟩) dw_in13 rfl (by decide) (by decide) (fun h => dw_E13 h) rfl ?_
              refine e_imul (z := tw_cz z 0 0) X dX13_neighbour_128 ?_
              refine e_iload (z := tw_cz z 0 0) X dX13_neighbour_129 1 rfl ?_
              refine e_iadd (z := tw_cz z 0 0) X dX13_neighbour_131 ?_
              refine e_zald (k := r11) (z := tw_cz z 0 0) X dX13_neighbour_132 ?_
              refine e_jn (α := Int32) (zJ := fun a12 => tw_cz z 0 0) (YJ := fun a12 => Y) (pcJ := 150) (LJ := fun a12 => []) (stJ := fun a12 => [.int a12]) (fun a12 => ?_) (fun j13 hj13 => ?_)
              ·
                exact dw_ckp (by exact ⟨Nat.le_of_ble_eq_true rfl, Nat.le_of_ble_eq_true rfl⟩) (e_iret (z := z) X eB dX13_neighbour_150 hret ⟨eMC, eMS⟩ hQ rfl rfl)
              refine e_if_eq (z := tw_cz z 0 0) X dX13_neighbour_133 (tgt := 140) (by decide) ?_ ?_
              ·
                refine e_iload (z := tw_cz z 0 0) X dX13_neighbour_140 0 rfl ?_
                refine e_aload_n (z := tw_cz z 0 0) X dX13_neighbour_142 rfl 4 rfl ?_
                refine e_getf (ci := 13) (T := TX13) (f := 0) (k := th) (z := tw_cz z 0 0) X dX13_neighbour_143 (Or.inl ⟨_, dw_w590⟩) dw_in13 rfl (by decide) (by decide) (fun h => dw_E13 h) rfl ?_
                refine e_imul (z := tw_cz z 0 0) X dX13_neighbour_146 ?_
                refine e_iload (z := tw_cz z 0 0) X dX13_neighbour_147 1 rfl ?_
                refine e_iadd (z := tw_cz z 0 0) X dX13_neighbour_149 ?_
                exact dw_Rf.sub [] rfl (hj13 ((v8 * (dw_i Y th 0)) + v7))
              ·
                refine e_iconst (z := tw_cz z 0 0) X dX13_neighbour_136 (v := (-1 : Int32)) (by decide) ?_
                refine e_goto (z := tw_cz z 0 0) X dX13_neighbour_137 (tgt := 150) (by decide) ?_
                exact dw_Rf.sub [] rfl (hj13 (-1 : Int32))
            ·
              exact dw_Rf.sub [] rfl (hj10 ())
    refine e_jn (α := Unit) (zJ := fun a14 => tw_cz z 0 0) (YJ := fun a14 => Y) (pcJ := 45) (LJ := fun a14 => [(3, .int v3), (0, .ref (b + th)), (1, .int x0)]) (stJ := fun a14 => []) (fun a14 => ?_) (fun j15 hj15 => ?_)
    ·
      refine e_iconst (z := tw_cz z 0 0) X dX13_neighbour_45 (v := (1 : Int32)) (by decide) ?_
      refine e_goto (z := tw_cz z 0 0) X dX13_neighbour_46 (tgt := 65) (by decide) ?_
      exact hj5 (1 : Int32)
    refine e_icmp_eq (z := tw_cz z 0 0) X dX13_neighbour_32 (tgt := 45) (by decide) ?_ ?_
    ·
      exact dw_Rf.sub [0, 1, 2] rfl (hj15 ())
    ·
      refine e_iload_n (z := tw_cz z 0 0) X dX13_neighbour_35 rfl 3 rfl ?_
      refine e_iconst (z := tw_cz z 0 0) X dX13_neighbour_36 (v := (4 : Int32)) (by decide) ?_
      refine e_icmp_eq (z := tw_cz z 0 0) X dX13_neighbour_37 (tgt := 45) (by decide) ?_ ?_
      ·
        exact dw_Rf.sub [0, 1, 2] rfl (hj15 ())
      ·
        refine e_iload_n (z := tw_cz z 0 0) X dX13_neighbour_40 rfl 3 rfl ?_
        refine e_iconst (z := tw_cz z 0 0) X dX13_neighbour_41 (v := (5 : Int32)) (by decide) ?_
        refine e_icmp_ne (z := tw_cz z 0 0) X dX13_neighbour_42 (tgt := 49) (by decide) ?_ ?_
        ·
          refine e_iload_n (z := tw_cz z 0 0) X dX13_neighbour_49 rfl 3 rfl ?_
          refine e_iconst (z := tw_cz z 0 0) X dX13_neighbour_50 (v := (2 : Int32)) (by decide) ?_
          refine e_jn (α := Unit) (zJ := fun a16 => tw_cz z 0 0) (YJ := fun a16 => Y) (pcJ := 60) (LJ := fun a16 => [(3, .int v3), (0, .ref (b + th)), (1, .int x0)]) (stJ := fun a16 => []) (fun a16 => ?_) (fun j17 hj17 => ?_)
          ·
            refine e_iconst (z := tw_cz z 0 0) X dX13_neighbour_60 (v := (0 : Int32)) (by decide) ?_
            refine e_goto (z := tw_cz z 0 0) X dX13_neighbour_61 (tgt := 65) (by decide) ?_
            exact hj5 (0 : Int32)
          refine e_icmp_eq (z := tw_cz z 0 0) X dX13_neighbour_51 (tgt := 60) (by decide) ?_ ?_
          ·
            exact dw_Rf.sub [0, 1, 2] rfl (hj17 ())
          ·
            refine e_iload_n (z := tw_cz z 0 0) X dX13_neighbour_54 rfl 3 rfl ?_
            refine e_bipush (z := tw_cz z 0 0) X dX13_neighbour_55 (v := (6 : Int32)) (by decide) ?_
            refine e_icmp_ne (z := tw_cz z 0 0) X dX13_neighbour_57 (tgt := 64) (by decide) ?_ ?_
            ·
              refine e_iconst (z := tw_cz z 0 0) X dX13_neighbour_64 (v := (-1 : Int32)) (by decide) ?_
              exact dw_Rf.sub [0, 1, 2] rfl (hj5 (-1 : Int32))
            ·
              exact dw_Rf.sub [0, 1, 2] rfl (hj17 ())
        ·
          exact dw_Rf.sub [0, 1, 2] rfl (hj15 ())
  refine e_jn (α := Unit) (zJ := fun a18 => tw_cz z 0 0) (YJ := fun a18 => Y) (pcJ := 15) (LJ := fun a18 => [(0, .ref (b + th)), (1, .int x0), (2, .int x1)]) (stJ := fun a18 => []) (fun a18 => ?_) (fun j19 hj19 => ?_)
  ·
    refine e_iconst (z := tw_cz z 0 0) X dX13_neighbour_15 (v := (1 : Int32)) (by decide) ?_
    refine e_goto (z := tw_cz z 0 0) X dX13_neighbour_16 (tgt := 29) (by decide) ?_
    exact hj2 (1 : Int32)
  refine e_icmp_eq (z := tw_cz z 0 0) X dX13_neighbour_2 (tgt := 15) (by decide) ?_ ?_
  ·
    exact hj19 ()
  ·
    refine e_iload_n (z := tw_cz z 0 0) X dX13_neighbour_5 rfl 2 rfl ?_
    refine e_iconst (z := tw_cz z 0 0) X dX13_neighbour_6 (v := (2 : Int32)) (by decide) ?_
    refine e_icmp_eq (z := tw_cz z 0 0) X dX13_neighbour_7 (tgt := 15) (by decide) ?_ ?_
    ·
      exact hj19 ()
    ·
      refine e_iload_n (z := tw_cz z 0 0) X dX13_neighbour_10 rfl 2 rfl ?_
      refine e_iconst (z := tw_cz z 0 0) X dX13_neighbour_11 (v := (3 : Int32)) (by decide) ?_
      refine e_icmp_ne (z := tw_cz z 0 0) X dX13_neighbour_12 (tgt := 19) (by decide) ?_ ?_
      ·
        refine e_iload_n (z := tw_cz z 0 0) X dX13_neighbour_19 rfl 2 rfl ?_
        refine e_iconst (z := tw_cz z 0 0) X dX13_neighbour_20 (v := (4 : Int32)) (by decide) ?_
        refine e_icmp_le (z := tw_cz z 0 0) X dX13_neighbour_21 (tgt := 28) (by decide) ?_ ?_
        ·
          refine e_iconst (z := tw_cz z 0 0) X dX13_neighbour_28 (v := (0 : Int32)) (by decide) ?_
          exact hj2 (0 : Int32)
        ·
          refine e_iconst (z := tw_cz z 0 0) X dX13_neighbour_24 (v := (-1 : Int32)) (by decide) ?_
          refine e_goto (z := tw_cz z 0 0) X dX13_neighbour_25 (tgt := 29) (by decide) ?_
          exact hj2 (-1 : Int32)
      ·
        exact hj19 ()
def dw_P_X13_step (n : Nat) (th : Nat) (x0 : Int32) (x1 : Int32) (Y : dw_S) (Q : Int32 → Prop) : Prop :=
pw_lt (0 : Int32) (fun (v1 : Int32) =>
pw_ck (dw_is Y th 13) (
pw_nn (dw_r Y th 5) (fun (r2 : Nat) =>
pw_ck (dw_is Y r2 26) (
pw_lt (Int32.ofNat (dw_l Y r2)) (fun (v3 : Int32) =>
pw_lt (0 : Int32) (fun (v4 : Int32) =>
pw_lp (fun (k6 : (Int32 × Int32) → Prop) (a5 : Int32 × Int32) =>
if v3 ≤ a5.2 then (pw_ck (dw_is Y th 13) (
dw_P_X13_neighbour th x0 ((((x1 + a5.1) - (x1 + a5.1) / (8 : Int32) * (8 : Int32)) + (8 : Int32)) - (((x1 + a5.1) - (x1 + a5.1) / (8 : Int32) * (8 : Int32)) + (8 : Int32)) / (8 : Int32) * (8 : Int32)) Y (fun (r7 : Int32) =>
Q r7)))
else (pw_ck (dw_is Y r2 26 ∧ tw_ok a5.2 (dw_l Y r2) = true) (
pw_nn (dw_r Y r2 (Int32.toNatClampNeg a5.2)) (fun (r8 : Nat) =>
pw_ck (dw_is Y th 13) (
pw_ck (¬ (dw_i Y th 0) = 0) (
pw_ck (dw_is Y r8 20 ∧ tw_ok (0 : Int32) (dw_l Y r8) = true) (
tw_jn (fun (a9 : Int32) =>
pw_lt (a5.2 + (1 : Int32)) (fun (v11 : Int32) =>
k6 (a9, v11))) (fun (j10 : (Int32) → Prop) =>
if (x0 - x0 / (dw_i Y th 0) * (dw_i Y th 0)) < (dw_i Y r8 (Int32.toNatClampNeg (0 : Int32))) then (j10 a5.1)
else (pw_ck (dw_is Y th 13) (
pw_ck (¬ (dw_i Y th 0) = 0) (
pw_ck (dw_is Y r8 20 ∧ tw_ok (2 : Int32) (dw_l Y r8) = true) (
if (dw_i Y r8 (Int32.toNatClampNeg (2 : Int32))) < (x0 - x0 / (dw_i Y th 0) * (dw_i Y th 0)) then (j10 a5.1)
else (pw_ck (dw_is Y th 13) (
pw_ck (¬ (dw_i Y th 0) = 0) (
pw_ck (dw_is Y r8 20 ∧ tw_ok (1 : Int32) (dw_l Y r8) = true) (
if (x0 / (dw_i Y th 0)) < (dw_i Y r8 (Int32.toNatClampNeg (1 : Int32))) then (j10 a5.1)
else (pw_ck (dw_is Y th 13) (
pw_ck (¬ (dw_i Y th 0) = 0) (
pw_ck (dw_is Y r8 20 ∧ tw_ok (3 : Int32) (dw_l Y r8) = true) (
if (dw_i Y r8 (Int32.toNatClampNeg (3 : Int32))) < (x0 / (dw_i Y th 0)) then (j10 a5.1)
else (pw_ck (dw_is Y r8 20 ∧ tw_ok (4 : Int32) (dw_l Y r8) = true) (
pw_lt (a5.1 + (dw_i Y r8 (Int32.toNatClampNeg (4 : Int32)))) (fun (v12 : Int32) =>
j10 v12))))))))))))))))))))))) n (v1, v4)))))))
theorem dw_y_X13_step : tw_My yX13_step cX13_step 8 (some .int) 2 := ⟨List.mem_of_getElem? dw_w708, List.mem_of_getElem? dw_w50, by decide +kernel, by decide +kernel, by decide +kernel⟩
theorem dw_v_X13_step : dw_Mv yX13_step "TreasureWalkLaw$Island" := ⟨List.mem_of_getElem? dw_w706, List.mem_of_getElem? dw_w707⟩
set_option maxRecDepth 100000 in
set_option maxHeartbeats 4000000 in
theorem dw_m_X13_step {l : Launch} {b : Nat} {D : tw_G} {C : Nat → ClassId} {S : Nat → Nat} (hD : D.2 = []) {n : Nat} {th : Nat} {x0 : Int32} {x1 : Int32} {Y : dw_S} {Q : Int32 → Prop}  (h : dw_P_X13_step n th x0 x1 Y Q) : dw_Met l b D C S yX13_step cX13_step 8 (some .int) ({ frames := 1, cells := 0, slots := 0, locals := 26 } : Room) [.ref (b + th), .int x0, .int x1] Y (fun r => some (.int r)) (fun _ => Y) Q := by
  refine dw_metOf (dw_P_X13_step n th x0 x1 Y Q) h _ _ Q (by decide +kernel) (Nat.le_of_ble_eq_true rfl) ?_
  intro z el eB eD eC eS eR X hA hnm hret hQ
  subst el eD eC eS
  have hb : tw_zB z ≤ b := Nat.le_of_eq eB
  have hA : dw_AK (tw_zB z) (tw_zS z) (tw_zs z) := by rw [eB]; exact hA
  have hfr : (tw_zR z).frames = 1 := by rw [eR]
  have hlo : (tw_zR z).locals = 26 := by rw [eR]
  have eMC : (tw_zR z).cells = 0 := by rw [eR]
  have eMS : (tw_zR z).slots = 0 := by rw [eR]
  have X : tw_X z cX13_step "TreasureWalkLaw$Island" 8 := X
  show dw_Rf (tw_cz z 0 0) b _ Y 0 [(0, .ref (b + th)), (1, .int x0), (2, .int x1)] []
  unfold dw_P_X13_step
  refine e_iconst (z := tw_cz z 0 0) X dX13_step_0 (v := (0 : Int32)) (by decide) ?_
  refine e_istore_n (z := tw_cz z 0 0) X dX13_step_1 rfl (by decide) (LL := fun v1 => [(3, .int v1), (0, .ref (b + th)), (1, .int x0), (2, .int x1)]) (fun _ => rfl) (fun v1 => ?_)
  refine e_aload_n (z := tw_cz z 0 0) X dX13_step_2 rfl 1 rfl ?_
  refine e_getf (ci := 13) (T := TX13) (f := 5) (k := th) (z := tw_cz z 0 0) X dX13_step_3 (Or.inl ⟨_, dw_w600⟩) dw_in13 rfl (by decide) (by decide) (fun h => dw_E13 h) rfl ?_
  refine e_nn (r := (dw_r Y th 5)) (LL := fun _ => [(3, .int v1), (0, .ref (b + th)), (1, .int x0), (2, .int x1)]) (SS := fun q => dw_v b q :: []) (fun r2 => ?_)
  show dw_Rf (tw_cz z 0 0) b _ Y _ [(3, .int v1), (0, .ref (b + th)), (1, .int x0), (2, .int x1)] [.ref (b + r2)]
  refine e_astore (z := tw_cz z 0 0) X dX13_step_6 (by decide) (L' := [(4, .ref (b + r2)), (3, .int v1), (0, .ref (b + th)), (1, .int x0), (2, .int x1)]) rfl ?_
  refine e_aload (z := tw_cz z 0 0) X dX13_step_8 0 rfl ?_
  refine e_alen (k := r2) (kd := 26) (a := 4) (ty := .array .int) (x := (0, .inr (.inr (.inr (.inr (fun j => Option.map (fun a => b + a) (dw_r Y r2 j))))))) (z := tw_cz z 0 0) X dX13_step_10 (by decide) (fun h => dw_E26 h) rfl ?_
  refine e_istore (z := tw_cz z 0 0) X dX13_step_11 (by decide) (LL := fun v3 => [(5, .int v3), (4, .ref (b + r2)), (3, .int v1), (0, .ref (b + th)), (1, .int x0), (2, .int x1)]) (fun _ => rfl) (fun v3 => ?_)
  refine e_iconst (z := tw_cz z 0 0) X dX13_step_13 (v := (0 : Int32)) (by decide) ?_
  refine e_istore (z := tw_cz z 0 0) X dX13_step_14 (by decide) (LL := fun v4 => [(6, .int v4), (5, .int v3), (4, .ref (b + r2)), (3, .int v1), (0, .ref (b + th)), (1, .int x0), (2, .int x1)]) (fun _ => rfl) (fun v4 => ?_)
  refine e_lp (α := Int32 × Int32) (zJ := fun a5 => tw_cz z 0 0) (YJ := fun a5 => Y) (pcJ := 16) (LJ := fun a5 => [(6, .int a5.2), (5, .int v3), (4, .ref (b + r2)), (3, .int a5.1), (0, .ref (b + th)), (1, .int x0), (2, .int x1)]) (stJ := fun a5 => []) (fun k6 hk6 a5 => ?_) n (v1, v4)
  refine e_iload (z := tw_cz z 0 0) X dX13_step_16 0 rfl ?_
  refine e_iload (z := tw_cz z 0 0) X dX13_step_18 1 rfl ?_
  refine e_icmp_ge (z := tw_cz z 0 0) X dX13_step_20 (tgt := 95) (by decide) ?_ ?_
  ·
    refine e_aload_n (z := tw_cz z 0 0) X dX13_step_95 rfl 4 rfl ?_
    refine e_iload_n (z := tw_cz z 0 0) X dX13_step_96 rfl 5 rfl ?_
    refine e_iload_n (z := tw_cz z 0 0) X dX13_step_97 rfl 6 rfl ?_
    refine e_iload_n (z := tw_cz z 0 0) X dX13_step_98 rfl 3 rfl ?_
    refine e_iadd (z := tw_cz z 0 0) X dX13_step_99 ?_
    refine e_bipush (z := tw_cz z 0 0) X dX13_step_100 (v := (8 : Int32)) (by decide) ?_
    refine dw_ckp (by decide) (e_irem (z := tw_cz z 0 0) X dX13_step_102 ?_)
    refine e_bipush (z := tw_cz z 0 0) X dX13_step_103 (v := (8 : Int32)) (by decide) ?_
    refine e_iadd (z := tw_cz z 0 0) X dX13_step_105 ?_
    refine e_bipush (z := tw_cz z 0 0) X dX13_step_106 (v := (8 : Int32)) (by decide) ?_
    refine dw_ckp (by decide) (e_irem (z := tw_cz z 0 0) X dX13_step_108 ?_)
    refine dw_ckq (by exact ⟨Nat.le_of_ble_eq_true rfl, Nat.le_of_ble_eq_true rfl⟩) (e_callV (k := th) (ci := 13) (Cn := "TreasureWalkLaw$Island") (T := TX13) (N := 13) (c := 0) (s := 0) (As := [.int x0, .int ((((x1 + a5.1) - (x1 + a5.1) / (8 : Int32) * (8 : Int32)) + (8 : Int32)) - (((x1 + a5.1) - (x1 + a5.1) / (8 : Int32) * (8 : Int32)) + (8 : Int32)) / (8 : Int32) * (8 : Int32))]) (z := tw_cz z 0 0) X hA hb hD ⟨rfl, rfl⟩ ⟨eMC, eMS⟩ dX13_step_109 (fun Q h => dw_m_X13_neighbour hD h) dw_y_X13_neighbour dw_v_X13_neighbour _ dw_w709 (by decide) rfl (fun h => dw_E13 h) rfl ⟨tw_le hfr rfl, tw_le hlo rfl⟩ (Nat.le_of_ble_eq_true rfl) rfl (fun r7 => ?_))
    show dw_Rf (tw_cz z 0 0) b _ Y _ [(6, .int a5.2), (5, .int v3), (4, .ref (b + r2)), (3, .int a5.1), (0, .ref (b + th)), (1, .int x0), (2, .int x1)] [.int r7]
    exact dw_ckp (by exact ⟨Nat.le_of_ble_eq_true rfl, Nat.le_of_ble_eq_true rfl⟩) (e_iret (z := z) X eB dX13_step_112 hret ⟨eMC, eMS⟩ hQ rfl rfl)
  ·
    refine e_aload (z := tw_cz z 0 0) X dX13_step_23 2 rfl ?_
    refine e_iload (z := tw_cz z 0 0) X dX13_step_25 0 rfl ?_
    refine e_aald (k := r2) (kd := 26) (a := 4) (ty := .array .int) (z := tw_cz z 0 0) X dX13_step_27 (by decide) (fun h => dw_E26 h) rfl rfl ?_
    refine e_nn (r := (dw_r Y r2 (Int32.toNatClampNeg a5.2))) (LL := fun _ => [(6, .int a5.2), (5, .int v3), (4, .ref (b + r2)), (3, .int a5.1), (0, .ref (b + th)), (1, .int x0), (2, .int x1)]) (SS := fun q => dw_v b q :: []) (fun r8 => ?_)
    show dw_Rf (tw_cz z 0 0) b _ Y _ [(6, .int a5.2), (5, .int v3), (4, .ref (b + r2)), (3, .int a5.1), (0, .ref (b + th)), (1, .int x0), (2, .int x1)] [.ref (b + r8)]
    refine e_astore (z := tw_cz z 0 0) X dX13_step_28 (by decide) (L' := [(7, .ref (b + r8)), (6, .int a5.2), (5, .int v3), (4, .ref (b + r2)), (3, .int a5.1), (0, .ref (b + th)), (1, .int x0), (2, .int x1)]) rfl ?_
    refine e_iload_n (z := tw_cz z 0 0) X dX13_step_30 rfl 6 rfl ?_
    refine e_aload_n (z := tw_cz z 0 0) X dX13_step_31 rfl 5 rfl ?_
    refine e_getf (ci := 13) (T := TX13) (f := 0) (k := th) (z := tw_cz z 0 0) X dX13_step_32 (Or.inl ⟨_, dw_w590⟩) dw_in13 rfl (by decide) (by decide) (fun h => dw_E13 h) rfl ?_
    refine e_irem (z := tw_cz z 0 0) X dX13_step_35 ?_
    refine e_aload (z := tw_cz z 0 0) X dX13_step_36 0 rfl ?_
    refine e_iconst (z := tw_cz z 0 0) X dX13_step_38 (v := (0 : Int32)) (by decide) ?_
    refine e_iald (k := r8) (z := tw_cz z 0 0) X dX13_step_39 ?_
    refine e_jn (α := Int32) (zJ := fun a9 => tw_cz z 0 0) (YJ := fun a9 => Y) (pcJ := 89) (LJ := fun a9 => [(6, .int a5.2), (5, .int v3), (4, .ref (b + r2)), (3, .int a9), (0, .ref (b + th)), (1, .int x0), (2, .int x1)]) (stJ := fun a9 => []) (fun a9 => ?_) (fun j10 hj10 => ?_)
    ·
      refine e_iinc (z := tw_cz z 0 0) X dX13_step_89 0 rfl (v := (1 : Int32)) (by decide) (by decide) (LL := fun v11 => [(6, .int v11), (5, .int v3), (4, .ref (b + r2)), (3, .int a9), (0, .ref (b + th)), (1, .int x0), (2, .int x1)]) (fun _ => rfl) (fun v11 => ?_)
      refine e_goto (z := tw_cz z 0 0) X dX13_step_92 (tgt := 16) (by decide) ?_
      exact hk6 (a9, v11)
    refine e_icmp_lt (z := tw_cz z 0 0) X dX13_step_40 (tgt := 89) (by decide) ?_ ?_
    ·
      exact dw_Rf.sub [1, 2, 3, 4, 5, 6, 7] rfl (hj10 a5.1)
    ·
      refine e_iload_n (z := tw_cz z 0 0) X dX13_step_43 rfl 6 rfl ?_
      refine e_aload_n (z := tw_cz z 0 0) X dX13_step_44 rfl 5 rfl ?_
      refine e_getf (ci := 13) (T := TX13) (f := 0) (k := th) (z := tw_cz z 0 0) X dX13_step_45 (Or.inl ⟨_, dw_w590⟩) dw_in13 rfl (by decide) (by decide) (fun h => dw_E13 h) rfl ?_
      refine e_irem (z := tw_cz z 0 0) X dX13_step_48 ?_
      refine e_aload (z := tw_cz z 0 0) X dX13_step_49 0 rfl ?_
      refine e_iconst (z := tw_cz z 0 0) X dX13_step_51 (v := (2 : Int32)) (by decide) ?_
      refine e_iald (k := r8) (z := tw_cz z 0 0) X dX13_step_52 ?_
      refine e_icmp_gt (z := tw_cz z 0 0) X dX13_step_53 (tgt := 89) (by decide) ?_ ?_
      ·
        exact dw_Rf.sub [1, 2, 3, 4, 5, 6, 7] rfl (hj10 a5.1)
      ·
        refine e_iload_n (z := tw_cz z 0 0) X dX13_step_56 rfl 6 rfl ?_
        refine e_aload_n (z := tw_cz z 0 0) X dX13_step_57 rfl 5 rfl ?_
        refine e_getf (ci := 13) (T := TX13) (f := 0) (k := th) (z := tw_cz z 0 0) X dX13_step_58 (Or.inl ⟨_, dw_w590⟩) dw_in13 rfl (by decide) (by decide) (fun h => dw_E13 h) rfl ?_
        refine e_idiv (z := tw_cz z 0 0) X dX13_step_61 ?_
        refine e_aload (z := tw_cz z 0 0) X dX13_step_62 0 rfl ?_
        refine e_iconst (z := tw_cz z 0 0) X dX13_step_64 (v := (1 : Int32)) (by decide) ?_
        refine e_iald (k := r8) (z := tw_cz z 0 0) X dX13_step_65 ?_
        refine e_icmp_lt (z := tw_cz z 0 0) X dX13_step_66 (tgt := 89) (by decide) ?_ ?_
        ·
          exact dw_Rf.sub [1, 2, 3, 4, 5, 6, 7] rfl (hj10 a5.1)
        ·
          refine e_iload_n (z := tw_cz z 0 0) X dX13_step_69 rfl 6 rfl ?_
          refine e_aload_n (z := tw_cz z 0 0) X dX13_step_70 rfl 5 rfl ?_
          refine e_getf (ci := 13) (T := TX13) (f := 0) (k := th) (z := tw_cz z 0 0) X dX13_step_71 (Or.inl ⟨_, dw_w590⟩) dw_in13 rfl (by decide) (by decide) (fun h => dw_E13 h) rfl ?_
          refine e_idiv (z := tw_cz z 0 0) X dX13_step_74 ?_
          refine e_aload (z := tw_cz z 0 0) X dX13_step_75 0 rfl ?_
          refine e_iconst (z := tw_cz z 0 0) X dX13_step_77 (v := (3 : Int32)) (by decide) ?_
          refine e_iald (k := r8) (z := tw_cz z 0 0) X dX13_step_78 ?_
          refine e_icmp_gt (z := tw_cz z 0 0) X dX13_step_79 (tgt := 89) (by decide) ?_ ?_
          ·
            exact dw_Rf.sub [1, 2, 3, 4, 5, 6, 7] rfl (hj10 a5.1)
          ·
            refine e_iload_n (z := tw_cz z 0 0) X dX13_step_82 rfl 4 rfl ?_
            refine e_aload (z := tw_cz z 0 0) X dX13_step_83 0 rfl ?_
            refine e_iconst (z := tw_cz z 0 0) X dX13_step_85 (v := (4 : Int32)) (by decide) ?_
            refine e_iald (k := r8) (z := tw_cz z 0 0) X dX13_step_86 ?_
            refine e_iadd (z := tw_cz z 0 0) X dX13_step_87 ?_
            refine e_istore_n (z := tw_cz z 0 0) X dX13_step_88 rfl (by decide) (LL := fun v12 => [(3, .int v12), (7, .ref (b + r8)), (6, .int a5.2), (5, .int v3), (4, .ref (b + r2)), (0, .ref (b + th)), (1, .int x0), (2, .int x1)]) (fun _ => rfl) (fun v12 => ?_)
            exact dw_Rf.sub [2, 3, 4, 0, 5, 6, 7] rfl (hj10 v12)
def dw_P_X13_behind (n : Nat) (th : Nat) (r0 : Nat) (x1 : Int32) (x2 : Int32) (Y : dw_S) (Q : Int32 → Prop) : Prop :=
pw_lt x1 (fun (v1 : Int32) =>
pw_lt (0 : Int32) (fun (v2 : Int32) =>
pw_lp (fun (k4 : (Int32 × Int32) → Prop) (a3 : Int32 × Int32) =>
tw_jn (fun (a5 : Unit) =>
if 0 ≤ a3.1 then (pw_ck (dw_is Y r0 14) (
if ¬ (dw_i Y r0 0) = 0 then (pw_ck (dw_is Y r0 14) (
tw_jn (fun (a7 : Int32) =>
Q a7) (fun (j8 : (Int32) → Prop) =>
if ¬ (dw_i Y r0 0) = (1 : Int32) then (pw_ck (dw_is Y r0 14) (
pw_ck (dw_is Y th 13) (
dw_P_X13_step n th a3.1 (dw_i Y r0 3) Y (fun (r9 : Int32) =>
if 0 ≤ r9 then (j8 (-1 : Int32))
else (j8 a3.1)))))
else (pw_ck (dw_is Y th 13) (
pw_nn (dw_r Y th 4) (fun (r10 : Nat) =>
pw_ck (dw_is Y r0 14) (
pw_ck (dw_is Y r10 20 ∧ tw_ok (dw_i Y r0 1) (dw_l Y r10) = true) (
if ¬ a3.1 = (dw_i Y r10 (Int32.toNatClampNeg (dw_i Y r0 1))) then (j8 (-1 : Int32))
else (j8 a3.1)))))))))
else (pw_ck (dw_is Y r0 14) (
pw_ck (dw_is Y r0 14) (
tw_jn (fun (a11 : Int32) =>
Q a11) (fun (j12 : (Int32) → Prop) =>
if (dw_i Y r0 2) < (if 0 ≤ (x2 - (dw_i Y r0 1)) then (x2 - (dw_i Y r0 1)) else 0 - (x2 - (dw_i Y r0 1))) then (j12 (-1 : Int32))
else (j12 a3.1)))))))
else (Q (-1 : Int32))) (fun (j6 : (Unit) → Prop) =>
if x2 ≤ a3.2 then (j6 ())
else (if a3.1 < 0 then (j6 ())
else (pw_ck (dw_is Y r0 14) (
tw_jn (fun (a13 : Unit) =>
pw_ck (dw_is Y r0 14) (
pw_ck (dw_is Y th 13) (
dw_P_X13_step n th a3.1 (dw_i Y r0 3) Y (fun (r15 : Int32) =>
pw_lt r15 (fun (v16 : Int32) =>
pw_lt (a3.2 + (1 : Int32)) (fun (v17 : Int32) =>
k4 (v16, v17))))))) (fun (j14 : (Unit) → Prop) =>
if ¬ (dw_i Y r0 0) = (1 : Int32) then (j14 ())
else (pw_ck (dw_is Y th 13) (
pw_nn (dw_r Y th 4) (fun (r18 : Nat) =>
pw_ck (dw_is Y r0 14) (
pw_ck (dw_is Y r18 20 ∧ tw_ok (dw_i Y r0 1) (dw_l Y r18) = true) (
if ¬ a3.1 = (dw_i Y r18 (Int32.toNatClampNeg (dw_i Y r0 1))) then (j14 ())
else (Q (-1 : Int32))))))))))))) n (v1, v2)))
theorem dw_y_X13_behind : tw_My yX13_behind cX13_behind 6 (some .int) 3 := ⟨List.mem_of_getElem? dw_w704, List.mem_of_getElem? dw_w50, by decide +kernel, by decide +kernel, by decide +kernel⟩
theorem dw_v_X13_behind : dw_Mv yX13_behind "TreasureWalkLaw$Island" := ⟨List.mem_of_getElem? dw_w702, List.mem_of_getElem? dw_w703⟩
set_option maxRecDepth 100000 in
set_option maxHeartbeats 4000000 in
theorem dw_m_X13_behind {l : Launch} {b : Nat} {D : tw_G} {C : Nat → ClassId} {S : Nat → Nat} (hD : D.2 = []) {n : Nat} {th : Nat} {r0 : Nat} {x1 : Int32} {x2 : Int32} {Y : dw_S} {Q : Int32 → Prop}  (h : dw_P_X13_behind n th r0 x1 x2 Y Q) : dw_Met l b D C S yX13_behind cX13_behind 6 (some .int) ({ frames := 2, cells := 0, slots := 0, locals := 53 } : Room) [.ref (b + th), .ref (b + r0), .int x1, .int x2] Y (fun r => some (.int r)) (fun _ => Y) Q := by
  refine dw_metOf (dw_P_X13_behind n th r0 x1 x2 Y Q) h _ _ Q (by decide +kernel) (Nat.le_of_ble_eq_true rfl) ?_
  intro z el eB eD eC eS eR X hA hnm hret hQ
  subst el eD eC eS
  have hb : tw_zB z ≤ b := Nat.le_of_eq eB
  have hA : dw_AK (tw_zB z) (tw_zS z) (tw_zs z) := by rw [eB]; exact hA
  have hfr : (tw_zR z).frames = 2 := by rw [eR]
  have hlo : (tw_zR z).locals = 53 := by rw [eR]
  have eMC : (tw_zR z).cells = 0 := by rw [eR]
  have eMS : (tw_zR z).slots = 0 := by rw [eR]
  have X : tw_X z cX13_behind "TreasureWalkLaw$Island" 6 := X
  show dw_Rf (tw_cz z 0 0) b _ Y 0 [(0, .ref (b + th)), (1, .ref (b + r0)), (2, .int x1), (3, .int x2)] []
  unfold dw_P_X13_behind
  refine e_iload_n (z := tw_cz z 0 0) X dX13_behind_0 rfl 2 rfl ?_
  refine e_istore (z := tw_cz z 0 0) X dX13_behind_1 (by decide) (LL := fun v1 => [(4, .int v1), (0, .ref (b + th)), (1, .ref (b + r0)), (2, .int x1), (3, .int x2)]) (fun _ => rfl) (fun v1 => ?_)
  refine e_iconst (z := tw_cz z 0 0) X dX13_behind_3 (v := (0 : Int32)) (by decide) ?_
  refine e_istore (z := tw_cz z 0 0) X dX13_behind_4 (by decide) (LL := fun v2 => [(5, .int v2), (4, .int v1), (0, .ref (b + th)), (1, .ref (b + r0)), (2, .int x1), (3, .int x2)]) (fun _ => rfl) (fun v2 => ?_)
  refine dw_Rf.sub [0, 1, 2, 3, 5] rfl ?_
  refine e_lp (α := Int32 × Int32) (zJ := fun a3 => tw_cz z 0 0) (YJ := fun a3 => Y) (pcJ := 6) (LJ := fun a3 => [(5, .int a3.2), (4, .int a3.1), (0, .ref (b + th)), (1, .ref (b + r0)), (3, .int x2)]) (stJ := fun a3 => []) (fun k4 hk4 a3 => ?_) n (v1, v2)
  refine e_iload (z := tw_cz z 0 0) X dX13_behind_6 0 rfl ?_
  refine e_iload_n (z := tw_cz z 0 0) X dX13_behind_8 rfl 4 rfl ?_
  refine e_jn (α := Unit) (zJ := fun a5 => tw_cz z 0 0) (YJ := fun a5 => Y) (pcJ := 59) (LJ := fun a5 => [(4, .int a3.1), (0, .ref (b + th)), (1, .ref (b + r0)), (3, .int x2)]) (stJ := fun a5 => []) (fun a5 => ?_) (fun j6 hj6 => ?_)
  ·
    refine e_iload (z := tw_cz z 0 0) X dX13_behind_59 0 rfl ?_
    refine e_if_ge (z := tw_cz z 0 0) X dX13_behind_61 (tgt := 66) (by decide) ?_ ?_
    ·
      refine e_aload_n (z := tw_cz z 0 0) X dX13_behind_66 rfl 2 rfl ?_
      refine e_getf (ci := 14) (T := TX14) (f := 0) (k := r0) (z := tw_cz z 0 0) X dX13_behind_67 (Or.inl ⟨_, dw_w1516⟩) dw_in14 rfl (by decide) (by decide) (fun h => dw_E14 h) rfl ?_
      refine e_if_ne (z := tw_cz z 0 0) X dX13_behind_70 (tgt := 96) (by decide) ?_ ?_
      ·
        refine e_aload_n (z := tw_cz z 0 0) X dX13_behind_96 rfl 2 rfl ?_
        refine e_getf (ci := 14) (T := TX14) (f := 0) (k := r0) (z := tw_cz z 0 0) X dX13_behind_97 (Or.inl ⟨_, dw_w1516⟩) dw_in14 rfl (by decide) (by decide) (fun h => dw_E14 h) rfl ?_
        refine e_iconst (z := tw_cz z 0 0) X dX13_behind_100 (v := (1 : Int32)) (by decide) ?_
        refine e_jn (α := Int32) (zJ := fun a7 => tw_cz z 0 0) (YJ := fun a7 => Y) (pcJ := 146) (LJ := fun a7 => []) (stJ := fun a7 => [.int a7]) (fun a7 => ?_) (fun j8 hj8 => ?_)
        ·
          exact dw_ckp (by exact ⟨Nat.le_of_ble_eq_true rfl, Nat.le_of_ble_eq_true rfl⟩) (e_iret (z := z) X eB dX13_behind_146 hret ⟨eMC, eMS⟩ hQ rfl rfl)
        refine e_icmp_ne (z := tw_cz z 0 0) X dX13_behind_101 (tgt := 127) (by decide) ?_ ?_
        ·
          refine e_aload_n (z := tw_cz z 0 0) X dX13_behind_127 rfl 1 rfl ?_
          refine e_iload (z := tw_cz z 0 0) X dX13_behind_128 0 rfl ?_
          refine e_aload_n (z := tw_cz z 0 0) X dX13_behind_130 rfl 2 rfl ?_
          refine e_getf (ci := 14) (T := TX14) (f := 3) (k := r0) (z := tw_cz z 0 0) X dX13_behind_131 (Or.inl ⟨_, dw_w1522⟩) dw_in14 rfl (by decide) (by decide) (fun h => dw_E14 h) rfl ?_
          refine dw_ckq (by exact ⟨Nat.le_of_ble_eq_true rfl, Nat.le_of_ble_eq_true rfl⟩) (e_callV (k := th) (ci := 13) (Cn := "TreasureWalkLaw$Island") (T := TX13) (N := 13) (c := 0) (s := 0) (As := [.int a3.1, .int (dw_i Y r0 3)]) (z := tw_cz z 0 0) X hA hb hD ⟨rfl, rfl⟩ ⟨eMC, eMS⟩ dX13_behind_134 (fun Q h => dw_m_X13_step hD h) dw_y_X13_step dw_v_X13_step _ dw_w705 (by decide) rfl (fun h => dw_E13 h) rfl ⟨tw_le hfr rfl, tw_le hlo rfl⟩ (Nat.le_of_ble_eq_true rfl) rfl (fun r9 => ?_))
          show dw_Rf (tw_cz z 0 0) b _ Y _ [(4, .int a3.1), (0, .ref (b + th)), (1, .ref (b + r0)), (3, .int x2)] [.int r9]
          refine e_if_ge (z := tw_cz z 0 0) X dX13_behind_137 (tgt := 145) (by decide) ?_ ?_
          ·
            refine e_iconst (z := tw_cz z 0 0) X dX13_behind_145 (v := (-1 : Int32)) (by decide) ?_
            exact dw_Rf.sub [] rfl (hj8 (-1 : Int32))
          ·
            refine e_iload (z := tw_cz z 0 0) X dX13_behind_140 0 rfl ?_
            refine e_goto (z := tw_cz z 0 0) X dX13_behind_142 (tgt := 146) (by decide) ?_
            exact dw_Rf.sub [] rfl (hj8 a3.1)
        ·
          refine e_iload (z := tw_cz z 0 0) X dX13_behind_104 0 rfl ?_
          refine e_aload_n (z := tw_cz z 0 0) X dX13_behind_106 rfl 1 rfl ?_
          refine e_getf (ci := 13) (T := TX13) (f := 4) (k := th) (z := tw_cz z 0 0) X dX13_behind_107 (Or.inl ⟨_, dw_w598⟩) dw_in13 rfl (by decide) (by decide) (fun h => dw_E13 h) rfl ?_
          refine e_nn (r := (dw_r Y th 4)) (LL := fun _ => [(4, .int a3.1), (0, .ref (b + th)), (1, .ref (b + r0)), (3, .int x2)]) (SS := fun q => dw_v b q :: [.int a3.1]) (fun r10 => ?_)
          show dw_Rf (tw_cz z 0 0) b _ Y _ [(4, .int a3.1), (0, .ref (b + th)), (1, .ref (b + r0)), (3, .int x2)] [.ref (b + r10), .int a3.1]
          refine e_aload_n (z := tw_cz z 0 0) X dX13_behind_110 rfl 2 rfl ?_
          refine e_getf (ci := 14) (T := TX14) (f := 1) (k := r0) (z := tw_cz z 0 0) X dX13_behind_111 (Or.inl ⟨_, dw_w1518⟩) dw_in14 rfl (by decide) (by decide) (fun h => dw_E14 h) rfl ?_
          refine e_iald (k := r10) (z := tw_cz z 0 0) X dX13_behind_114 ?_
          refine e_icmp_ne (z := tw_cz z 0 0) X dX13_behind_115 (tgt := 123) (by decide) ?_ ?_
          ·
            refine e_iconst (z := tw_cz z 0 0) X dX13_behind_123 (v := (-1 : Int32)) (by decide) ?_
            refine e_goto (z := tw_cz z 0 0) X dX13_behind_124 (tgt := 146) (by decide) ?_
            exact dw_Rf.sub [] rfl (hj8 (-1 : Int32))
          ·
            refine e_iload (z := tw_cz z 0 0) X dX13_behind_118 0 rfl ?_
            refine e_goto (z := tw_cz z 0 0) X dX13_behind_120 (tgt := 146) (by decide) ?_
            exact dw_Rf.sub [] rfl (hj8 a3.1)
      ·
        refine e_iload_n (z := tw_cz z 0 0) X dX13_behind_73 rfl 3 rfl ?_
        refine e_aload_n (z := tw_cz z 0 0) X dX13_behind_74 rfl 2 rfl ?_
        refine e_getf (ci := 14) (T := TX14) (f := 1) (k := r0) (z := tw_cz z 0 0) X dX13_behind_75 (Or.inl ⟨_, dw_w1518⟩) dw_in14 rfl (by decide) (by decide) (fun h => dw_E14 h) rfl ?_
        refine e_isub (z := tw_cz z 0 0) X dX13_behind_78 ?_
        refine e_mabs (z := tw_cz z 0 0) X ⟨Nat.zero_le _, Nat.zero_le _⟩ dX13_behind_79 _ dw_w713 (tw_le hfr rfl) (tw_le hlo rfl) (Nat.le_of_ble_eq_true rfl) ?_
        refine e_aload_n (z := tw_cz z 0 0) X dX13_behind_82 rfl 2 rfl ?_
        refine e_getf (ci := 14) (T := TX14) (f := 2) (k := r0) (z := tw_cz z 0 0) X dX13_behind_83 (Or.inl ⟨_, dw_w1520⟩) dw_in14 rfl (by decide) (by decide) (fun h => dw_E14 h) rfl ?_
        refine e_jn (α := Int32) (zJ := fun a11 => tw_cz z 0 0) (YJ := fun a11 => Y) (pcJ := 95) (LJ := fun a11 => []) (stJ := fun a11 => [.int a11]) (fun a11 => ?_) (fun j12 hj12 => ?_)
        ·
          exact dw_ckp (by exact ⟨Nat.le_of_ble_eq_true rfl, Nat.le_of_ble_eq_true rfl⟩) (e_iret (z := z) X eB dX13_behind_95 hret ⟨eMC, eMS⟩ hQ rfl rfl)
        refine e_icmp_gt (z := tw_cz z 0 0) X dX13_behind_86 (tgt := 94) (by decide) ?_ ?_
        ·
          refine e_iconst (z := tw_cz z 0 0) X dX13_behind_94 (v := (-1 : Int32)) (by decide) ?_
          exact dw_Rf.sub [] rfl (hj12 (-1 : Int32))
        ·
          refine e_iload (z := tw_cz z 0 0) X dX13_behind_89 0 rfl ?_
          refine e_goto (z := tw_cz z 0 0) X dX13_behind_91 (tgt := 95) (by decide) ?_
          exact dw_Rf.sub [] rfl (hj12 a3.1)
    ·
      refine e_iconst (z := tw_cz z 0 0) X dX13_behind_64 (v := (-1 : Int32)) (by decide) ?_
      exact dw_ckp (by exact ⟨Nat.le_of_ble_eq_true rfl, Nat.le_of_ble_eq_true rfl⟩) (e_iret (z := z) X eB dX13_behind_65 hret ⟨eMC, eMS⟩ hQ rfl rfl)
  refine e_icmp_ge (z := tw_cz z 0 0) X dX13_behind_9 (tgt := 59) (by decide) ?_ ?_
  ·
    exact dw_Rf.sub [1, 2, 3, 4] rfl (hj6 ())
  ·
    refine e_iload (z := tw_cz z 0 0) X dX13_behind_12 1 rfl ?_
    refine e_if_lt (z := tw_cz z 0 0) X dX13_behind_14 (tgt := 59) (by decide) ?_ ?_
    ·
      exact dw_Rf.sub [1, 2, 3, 4] rfl (hj6 ())
    ·
      refine e_aload_n (z := tw_cz z 0 0) X dX13_behind_17 rfl 3 rfl ?_
      refine e_getf (ci := 14) (T := TX14) (f := 0) (k := r0) (z := tw_cz z 0 0) X dX13_behind_18 (Or.inl ⟨_, dw_w1516⟩) dw_in14 rfl (by decide) (by decide) (fun h => dw_E14 h) rfl ?_
      refine e_iconst (z := tw_cz z 0 0) X dX13_behind_21 (v := (1 : Int32)) (by decide) ?_
      refine e_jn (α := Unit) (zJ := fun a13 => tw_cz z 0 0) (YJ := fun a13 => Y) (pcJ := 41) (LJ := fun a13 => [(5, .int a3.2), (4, .int a3.1), (0, .ref (b + th)), (1, .ref (b + r0)), (3, .int x2)]) (stJ := fun a13 => []) (fun a13 => ?_) (fun j14 hj14 => ?_)
      ·
        refine e_aload_n (z := tw_cz z 0 0) X dX13_behind_41 rfl 2 rfl ?_
        refine e_iload (z := tw_cz z 0 0) X dX13_behind_42 1 rfl ?_
        refine e_aload_n (z := tw_cz z 0 0) X dX13_behind_44 rfl 3 rfl ?_
        refine e_getf (ci := 14) (T := TX14) (f := 3) (k := r0) (z := tw_cz z 0 0) X dX13_behind_45 (Or.inl ⟨_, dw_w1522⟩) dw_in14 rfl (by decide) (by decide) (fun h => dw_E14 h) rfl ?_
        refine dw_ckq (by exact ⟨Nat.le_of_ble_eq_true rfl, Nat.le_of_ble_eq_true rfl⟩) (e_callV (k := th) (ci := 13) (Cn := "TreasureWalkLaw$Island") (T := TX13) (N := 13) (c := 0) (s := 0) (As := [.int a3.1, .int (dw_i Y r0 3)]) (z := tw_cz z 0 0) X hA hb hD ⟨rfl, rfl⟩ ⟨eMC, eMS⟩ dX13_behind_48 (fun Q h => dw_m_X13_step hD h) dw_y_X13_step dw_v_X13_step _ dw_w705 (by decide) rfl (fun h => dw_E13 h) rfl ⟨tw_le hfr rfl, tw_le hlo rfl⟩ (Nat.le_of_ble_eq_true rfl) rfl (fun r15 => ?_))
        show dw_Rf (tw_cz z 0 0) b _ Y _ [(5, .int a3.2), (4, .int a3.1), (0, .ref (b + th)), (1, .ref (b + r0)), (3, .int x2)] [.int r15]
        refine e_istore (z := tw_cz z 0 0) X dX13_behind_51 (by decide) (LL := fun v16 => [(4, .int v16), (5, .int a3.2), (0, .ref (b + th)), (1, .ref (b + r0)), (3, .int x2)]) (fun _ => rfl) (fun v16 => ?_)
        refine e_iinc (z := tw_cz z 0 0) X dX13_behind_53 1 rfl (v := (1 : Int32)) (by decide) (by decide) (LL := fun v17 => [(5, .int v17), (4, .int v16), (0, .ref (b + th)), (1, .ref (b + r0)), (3, .int x2)]) (fun _ => rfl) (fun v17 => ?_)
        refine e_goto (z := tw_cz z 0 0) X dX13_behind_56 (tgt := 6) (by decide) ?_
        exact hk4 (v16, v17)
      refine e_icmp_ne (z := tw_cz z 0 0) X dX13_behind_22 (tgt := 41) (by decide) ?_ ?_
      ·
        exact hj14 ()
      ·
        refine e_iload (z := tw_cz z 0 0) X dX13_behind_25 1 rfl ?_
        refine e_aload_n (z := tw_cz z 0 0) X dX13_behind_27 rfl 2 rfl ?_
        refine e_getf (ci := 13) (T := TX13) (f := 4) (k := th) (z := tw_cz z 0 0) X dX13_behind_28 (Or.inl ⟨_, dw_w598⟩) dw_in13 rfl (by decide) (by decide) (fun h => dw_E13 h) rfl ?_
        refine e_nn (r := (dw_r Y th 4)) (LL := fun _ => [(5, .int a3.2), (4, .int a3.1), (0, .ref (b + th)), (1, .ref (b + r0)), (3, .int x2)]) (SS := fun q => dw_v b q :: [.int a3.1]) (fun r18 => ?_)
        show dw_Rf (tw_cz z 0 0) b _ Y _ [(5, .int a3.2), (4, .int a3.1), (0, .ref (b + th)), (1, .ref (b + r0)), (3, .int x2)] [.ref (b + r18), .int a3.1]
        refine e_aload_n (z := tw_cz z 0 0) X dX13_behind_31 rfl 3 rfl ?_
        refine e_getf (ci := 14) (T := TX14) (f := 1) (k := r0) (z := tw_cz z 0 0) X dX13_behind_32 (Or.inl ⟨_, dw_w1518⟩) dw_in14 rfl (by decide) (by decide) (fun h => dw_E14 h) rfl ?_
        refine e_iald (k := r18) (z := tw_cz z 0 0) X dX13_behind_35 ?_
        refine e_icmp_ne (z := tw_cz z 0 0) X dX13_behind_36 (tgt := 41) (by decide) ?_ ?_
        ·
          exact hj14 ()
        ·
          refine e_iconst (z := tw_cz z 0 0) X dX13_behind_39 (v := (-1 : Int32)) (by decide) ?_
          exact dw_ckp (by exact ⟨Nat.le_of_ble_eq_true rfl, Nat.le_of_ble_eq_true rfl⟩) (e_iret (z := z) X eB dX13_behind_40 hret ⟨eMC, eMS⟩ hQ rfl rfl)
def dw_P_X13_many (n : Nat) (r0 : Nat) (Y : dw_S) (Q : Int32 → Prop) : Prop :=
pw_lt (0 : Int32) (fun (v1 : Int32) =>
pw_ck (dw_is Y r0 21) (
pw_lt (Int32.ofNat (dw_l Y r0)) (fun (v2 : Int32) =>
pw_lt (0 : Int32) (fun (v3 : Int32) =>
pw_lp (fun (k5 : (Int32 × Int32) → Prop) (a4 : Int32 × Int32) =>
if v2 ≤ a4.2 then (Q a4.1)
else (pw_ck (dw_is Y r0 21 ∧ tw_ok a4.2 (dw_l Y r0) = true) (
pw_lt (dw_i Y r0 (Int32.toNatClampNeg a4.2)) (fun (v6 : Int32) =>
tw_jn (fun (a7 : Int32) =>
pw_lt (a4.2 + (1 : Int32)) (fun (v9 : Int32) =>
k5 (a7, v9))) (fun (j8 : (Int32) → Prop) =>
if v6 = 0 then (j8 a4.1)
else (pw_lt (a4.1 + (1 : Int32)) (fun (v10 : Int32) =>
j8 v10))))))) n (v1, v3)))))
theorem dw_y_X13_many : tw_My yX13_many cX13_many 6 (some .int) 1 := ⟨List.mem_of_getElem? dw_w718, List.mem_of_getElem? dw_w50, by decide +kernel, by decide +kernel, by decide +kernel⟩
theorem dw_v_X13_many : tw_Ms yX13_many := List.mem_of_getElem? dw_w717
set_option maxRecDepth 100000 in
set_option maxHeartbeats 4000000 in
theorem dw_m_X13_many {l : Launch} {b : Nat} {D : tw_G} {C : Nat → ClassId} {S : Nat → Nat} (hD : D.2 = []) {n : Nat} {r0 : Nat} {Y : dw_S} {Q : Int32 → Prop}  (h : dw_P_X13_many n r0 Y Q) : dw_Met l b D C S yX13_many cX13_many 6 (some .int) ({ frames := 0, cells := 0, slots := 0, locals := 0 } : Room) [.ref (b + r0)] Y (fun r => some (.int r)) (fun _ => Y) Q := by
  refine dw_metOf (dw_P_X13_many n r0 Y Q) h _ _ Q (by decide +kernel) (Nat.le_of_ble_eq_true rfl) ?_
  intro z el eB eD eC eS eR X hA hnm hret hQ
  subst el eD eC eS
  have hb : tw_zB z ≤ b := Nat.le_of_eq eB
  have hA : dw_AK (tw_zB z) (tw_zS z) (tw_zs z) := by rw [eB]; exact hA
  have hfr : (tw_zR z).frames = 0 := by rw [eR]
  have hlo : (tw_zR z).locals = 0 := by rw [eR]
  have eMC : (tw_zR z).cells = 0 := by rw [eR]
  have eMS : (tw_zR z).slots = 0 := by rw [eR]
  have X : tw_X z cX13_many "TreasureWalkLaw$Island" 6 := X
  show dw_Rf (tw_cz z 0 0) b _ Y 0 [(0, .ref (b + r0))] []
  unfold dw_P_X13_many
  refine e_iconst (z := tw_cz z 0 0) X dX13_many_0 (v := (0 : Int32)) (by decide) ?_
  refine e_istore_n (z := tw_cz z 0 0) X dX13_many_1 rfl (by decide) (LL := fun v1 => [(1, .int v1), (0, .ref (b + r0))]) (fun _ => rfl) (fun v1 => ?_)
  refine e_aload_n (z := tw_cz z 0 0) X dX13_many_2 rfl 1 rfl ?_
  refine e_astore_n (z := tw_cz z 0 0) X dX13_many_3 rfl (by decide) (L' := [(2, .ref (b + r0)), (1, .int v1), (0, .ref (b + r0))]) rfl ?_
  refine e_aload_n (z := tw_cz z 0 0) X dX13_many_4 rfl 0 rfl ?_
  refine e_alen (k := r0) (kd := 21) (a := 1) (ty := .boolean) (x := (0, .inl (dw_i Y r0))) (z := tw_cz z 0 0) X dX13_many_5 (by decide) (fun h => dw_E21 h) rfl ?_
  refine e_istore_n (z := tw_cz z 0 0) X dX13_many_6 rfl (by decide) (LL := fun v2 => [(3, .int v2), (2, .ref (b + r0)), (1, .int v1), (0, .ref (b + r0))]) (fun _ => rfl) (fun v2 => ?_)
  refine e_iconst (z := tw_cz z 0 0) X dX13_many_7 (v := (0 : Int32)) (by decide) ?_
  refine e_istore (z := tw_cz z 0 0) X dX13_many_8 (by decide) (LL := fun v3 => [(4, .int v3), (3, .int v2), (2, .ref (b + r0)), (1, .int v1), (0, .ref (b + r0))]) (fun _ => rfl) (fun v3 => ?_)
  refine dw_Rf.sub [0, 1, 2, 3] rfl ?_
  refine e_lp (α := Int32 × Int32) (zJ := fun a4 => tw_cz z 0 0) (YJ := fun a4 => Y) (pcJ := 10) (LJ := fun a4 => [(4, .int a4.2), (3, .int v2), (2, .ref (b + r0)), (1, .int a4.1)]) (stJ := fun a4 => []) (fun k5 hk5 a4 => ?_) n (v1, v3)
  refine e_iload (z := tw_cz z 0 0) X dX13_many_10 0 rfl ?_
  refine e_iload_n (z := tw_cz z 0 0) X dX13_many_12 rfl 1 rfl ?_
  refine e_icmp_ge (z := tw_cz z 0 0) X dX13_many_13 (tgt := 36) (by decide) ?_ ?_
  ·
    refine e_iload_n (z := tw_cz z 0 0) X dX13_many_36 rfl 3 rfl ?_
    exact dw_ckp (by exact ⟨Nat.le_of_ble_eq_true rfl, Nat.le_of_ble_eq_true rfl⟩) (e_iret (z := z) X eB dX13_many_37 hret ⟨eMC, eMS⟩ hQ rfl rfl)
  ·
    refine e_aload_n (z := tw_cz z 0 0) X dX13_many_16 rfl 2 rfl ?_
    refine e_iload (z := tw_cz z 0 0) X dX13_many_17 0 rfl ?_
    refine e_zald (k := r0) (z := tw_cz z 0 0) X dX13_many_19 ?_
    refine e_istore (z := tw_cz z 0 0) X dX13_many_20 (by decide) (LL := fun v6 => [(5, .int v6), (4, .int a4.2), (3, .int v2), (2, .ref (b + r0)), (1, .int a4.1)]) (fun _ => rfl) (fun v6 => ?_)
    refine e_iload (z := tw_cz z 0 0) X dX13_many_22 0 rfl ?_
    refine e_jn (α := Int32) (zJ := fun a7 => tw_cz z 0 0) (YJ := fun a7 => Y) (pcJ := 30) (LJ := fun a7 => [(4, .int a4.2), (3, .int v2), (2, .ref (b + r0)), (1, .int a7)]) (stJ := fun a7 => []) (fun a7 => ?_) (fun j8 hj8 => ?_)
    ·
      refine e_iinc (z := tw_cz z 0 0) X dX13_many_30 0 rfl (v := (1 : Int32)) (by decide) (by decide) (LL := fun v9 => [(4, .int v9), (3, .int v2), (2, .ref (b + r0)), (1, .int a7)]) (fun _ => rfl) (fun v9 => ?_)
      refine e_goto (z := tw_cz z 0 0) X dX13_many_33 (tgt := 10) (by decide) ?_
      exact hk5 (a7, v9)
    refine e_if_eq (z := tw_cz z 0 0) X dX13_many_24 (tgt := 30) (by decide) ?_ ?_
    ·
      exact dw_Rf.sub [1, 2, 3, 4] rfl (hj8 a4.1)
    ·
      refine e_iinc (z := tw_cz z 0 0) X dX13_many_27 4 rfl (v := (1 : Int32)) (by decide) (by decide) (LL := fun v10 => [(1, .int v10), (5, .int v6), (4, .int a4.2), (3, .int v2), (2, .ref (b + r0))]) (fun _ => rfl) (fun v10 => ?_)
      exact dw_Rf.sub [2, 3, 4, 0] rfl (hj8 v10)
def dw_P_X13_far (n : Nat) (th : Nat) (x0 : Int32) (r1 : Option Nat) (Y : dw_S) (Q : Nat × dw_S → Prop) : Prop :=
pw_ck (dw_is Y th 13) (
pw_ck (dw_is Y th 13) (
pw_ck ((¬ ((dw_i Y th 0) * (dw_i Y th 1)) < 0 ∧ (Int32.toNatClampNeg ((dw_i Y th 0) * (dw_i Y th 1))) ≤ 10000) ∧ 1 ≤ 1 ∧ (0 + (Int32.toNatClampNeg ((dw_i Y th 0) * (dw_i Y th 1)))) ≤ 30) (
pw_al (dw_n Y) (fun (q1 : Nat) => pw_lt (dw_nw Y q1 20 (Int32.toNatClampNeg ((dw_i Y th 0) * (dw_i Y th 1))) (fun _ => 0) (fun _ => none)) (fun (Y2 : dw_S) =>
pw_lt (0 : Int32) (fun (v3 : Int32) =>
pw_lp (fun (k5 : (Int32 × dw_S) → Prop) (a4 : Int32 × dw_S) =>
pw_ck (dw_is a4.2 q1 20) (
if (Int32.ofNat (dw_l a4.2 q1)) ≤ a4.1 then (pw_lt (1 : Int32) (fun (v6 : Int32) =>
pw_lp (fun (k8 : (Int32 × dw_S) → Prop) (a7 : Int32 × dw_S) =>
if a7.1 = 0 then (pw_ck (1 ≤ 1 ∧ (0 + (Int32.toNatClampNeg ((dw_i Y th 0) * (dw_i Y th 1)))) ≤ 30) (Q (q1, a7.2)))
else (pw_lt (0 : Int32) (fun (v9 : Int32) =>
pw_lt (0 : Int32) (fun (v10 : Int32) =>
pw_lp (fun (k12 : (Int32 × Int32 × dw_S) → Prop) (a11 : Int32 × Int32 × dw_S) =>
pw_ck (dw_is a11.2.2 q1 20) (
if (Int32.ofNat (dw_l a11.2.2 q1)) ≤ a11.2.1 then (k8 (a11.1, a11.2.2))
else (pw_lt (0 : Int32) (fun (v13 : Int32) =>
pw_lp (fun (k15 : (Int32 × Int32 × Int32 × dw_S) → Prop) (a14 : Int32 × Int32 × Int32 × dw_S) =>
tw_jn (fun (a16 : Unit) =>
pw_lt (a14.2.1 + (1 : Int32)) (fun (v18 : Int32) =>
k12 (a14.1, v18, a14.2.2.2))) (fun (j17 : (Unit) → Prop) =>
if (8 : Int32) ≤ a14.2.2.1 then (j17 ())
else (pw_ck (dw_is a14.2.2.2 q1 20 ∧ tw_ok a14.2.1 (dw_l a14.2.2.2 q1) = true) (
if (9999 : Int32) ≤ (dw_i a14.2.2.2 q1 (Int32.toNatClampNeg a14.2.1)) then (j17 ())
else (pw_ck (dw_is a14.2.2.2 th 13 ∧ 1 ≤ 1 ∧ (0 + (Int32.toNatClampNeg ((dw_i Y th 0) * (dw_i Y th 1)))) ≤ 30) (
dw_P_X13_neighbour th a14.2.1 a14.2.2.1 a14.2.2.2 (fun (r19 : Int32) =>
pw_lt r19 (fun (v20 : Int32) =>
tw_jn (fun (a21 : Int32 × dw_S) =>
pw_lt (a14.2.2.1 + (1 : Int32)) (fun (v23 : Int32) =>
k15 (a21.1, a14.2.1, v23, a21.2))) (fun (j22 : (Int32 × dw_S) → Prop) =>
if v20 < 0 then (j22 (a14.1, a14.2.2.2))
else (tw_jn (fun (a24 : Unit) =>
pw_ck (dw_is a14.2.2.2 q1 20 ∧ tw_ok v20 (dw_l a14.2.2.2 q1) = true) (
pw_ck (dw_is a14.2.2.2 q1 20 ∧ tw_ok a14.2.1 (dw_l a14.2.2.2 q1) = true) (
if ((dw_i a14.2.2.2 q1 (Int32.toNatClampNeg a14.2.1)) + (1 : Int32)) < (dw_i a14.2.2.2 q1 (Int32.toNatClampNeg v20)) then (pw_ck (dw_is a14.2.2.2 q1 20 ∧ tw_ok a14.2.1 (dw_l a14.2.2.2 q1) = true) (
pw_ck (dw_is a14.2.2.2 q1 20 ∧ tw_ok v20 (dw_l a14.2.2.2 q1) = true) (pw_lt (dw_pi a14.2.2.2 q1 (Int32.toNatClampNeg v20) ((dw_i a14.2.2.2 q1 (Int32.toNatClampNeg a14.2.1)) + (1 : Int32))) (fun (Y26 : dw_S) =>
pw_lt (1 : Int32) (fun (v27 : Int32) =>
j22 (v27, Y26))))))
else (j22 (a14.1, a14.2.2.2))))) (fun (j25 : (Unit) → Prop) =>
pw_mt r1 (j25 ()) (fun (r28 : Nat) =>
pw_nn r1 (fun (r29 : Nat) =>
pw_ck (dw_is a14.2.2.2 r29 21 ∧ tw_ok v20 (dw_l a14.2.2.2 r29) = true) (
if (dw_i a14.2.2.2 r29 (Int32.toNatClampNeg v20)) = 0 then (j22 (a14.1, a14.2.2.2))
else (j25 ()))))))))))))))) n (a11.1, a11.2.1, v13, a11.2.2))))) n (v9, v10, a7.2))))) n (v6, a4.2)))
else (tw_jn (fun (a30 : Int32) =>
pw_ck (dw_is a4.2 q1 20 ∧ tw_ok a4.1 (dw_l a4.2 q1) = true) (pw_lt (dw_pi a4.2 q1 (Int32.toNatClampNeg a4.1) a30) (fun (Y32 : dw_S) =>
pw_lt (a4.1 + (1 : Int32)) (fun (v33 : Int32) =>
k5 (v33, Y32))))) (fun (j31 : (Int32) → Prop) =>
if ¬ a4.1 = x0 then (j31 (9999 : Int32))
else (j31 (0 : Int32)))))) n (v3, Y2)))))))
theorem dw_y_X13_far : tw_My yX13_far cX13_far 8 (some (.array .int)) 2 := ⟨List.mem_of_getElem? dw_w722, List.mem_of_getElem? dw_w50, by decide +kernel, by decide +kernel, by decide +kernel⟩
theorem dw_v_X13_far : dw_Mv yX13_far "TreasureWalkLaw$Island" := ⟨List.mem_of_getElem? dw_w720, List.mem_of_getElem? dw_w721⟩
set_option maxRecDepth 100000 in
set_option maxHeartbeats 4000000 in
theorem dw_m_X13_far {l : Launch} {b : Nat} {D : tw_G} {C : Nat → ClassId} {S : Nat → Nat} (hD : D.2 = []) {n : Nat} {th : Nat} {x0 : Int32} {r1 : Option Nat} {Y : dw_S} {Q : Nat × dw_S → Prop}  (h : dw_P_X13_far n th x0 r1 Y Q) : dw_Met l b D C S yX13_far cX13_far 8 (some (.array .int)) ({ frames := 1, cells := 1, slots := 30, locals := 26 } : Room) [.ref (b + th), .int x0, dw_v b r1] Y (fun r => some (.ref (b + r.1))) (fun r => r.2) Q := by
  refine dw_metOf (dw_P_X13_far n th x0 r1 Y Q) h _ _ Q (by decide +kernel) (by cases r1 <;> exact Nat.le_of_ble_eq_true rfl) ?_
  intro z el eB eD eC eS eR X hA hnm hret hQ
  subst el eD eC eS
  have hb : tw_zB z ≤ b := Nat.le_of_eq eB
  have hA : dw_AK (tw_zB z) (tw_zS z) (tw_zs z) := by rw [eB]; exact hA
  have hfr : (tw_zR z).frames = 1 := by rw [eR]
  have hlo : (tw_zR z).locals = 26 := by rw [eR]
  have eMC : (tw_zR z).cells = 1 := by rw [eR]
  have eMS : (tw_zR z).slots = 30 := by rw [eR]
  have X : tw_X z cX13_far "TreasureWalkLaw$Island" 8 := X
  show dw_Rf (tw_cz z 0 0) b _ Y 0 [(0, .ref (b + th)), (1, .int x0), (2, dw_v b r1)] []
  unfold dw_P_X13_far
  refine e_aload_n (z := tw_cz z 0 0) X dX13_far_0 rfl 0 rfl ?_
  refine e_getf (ci := 13) (T := TX13) (f := 0) (k := th) (z := tw_cz z 0 0) X dX13_far_1 (Or.inl ⟨_, dw_w590⟩) dw_in13 rfl (by decide) (by decide) (fun h => dw_E13 h) rfl ?_
  refine e_aload_n (z := tw_cz z 0 0) X dX13_far_4 rfl 0 rfl ?_
  refine e_getf (ci := 13) (T := TX13) (f := 1) (k := th) (z := tw_cz z 0 0) X dX13_far_5 (Or.inl ⟨_, dw_w592⟩) dw_in13 rfl (by decide) (by decide) (fun h => dw_E13 h) rfl ?_
  refine e_imul (z := tw_cz z 0 0) X dX13_far_8 ?_
  refine e_newi (c := 0) (s := 0) (z := tw_cz z 0 0) X ⟨rfl, rfl⟩ ⟨eMC, eMS⟩ dX13_far_9 hA.1.1 (fun q1 Y2 => ?_)
  show dw_Rf (tw_cz z 1 (0 + (Int32.toNatClampNeg ((dw_i Y th 0) * (dw_i Y th 1))))) b _ Y2 _ [(0, .ref (b + th)), (1, .int x0), (2, dw_v b r1)] [.ref (b + q1)]
  refine e_astore_n (z := tw_cz z 1 (0 + (Int32.toNatClampNeg ((dw_i Y th 0) * (dw_i Y th 1))))) X dX13_far_11 rfl (by decide) (L' := [(3, .ref (b + q1)), (0, .ref (b + th)), (1, .int x0), (2, dw_v b r1)]) (by generalize r1 = qq; cases qq <;> rfl) ?_
  refine e_iconst (z := tw_cz z 1 (0 + (Int32.toNatClampNeg ((dw_i Y th 0) * (dw_i Y th 1))))) X dX13_far_12 (v := (0 : Int32)) (by decide) ?_
  refine e_istore (z := tw_cz z 1 (0 + (Int32.toNatClampNeg ((dw_i Y th 0) * (dw_i Y th 1))))) X dX13_far_13 (by decide) (LL := fun v3 => [(4, .int v3), (3, .ref (b + q1)), (0, .ref (b + th)), (1, .int x0), (2, dw_v b r1)]) (fun _ => rfl) (fun v3 => ?_)
  refine e_lp (α := Int32 × dw_S) (zJ := fun a4 => tw_cz z 1 (0 + (Int32.toNatClampNeg ((dw_i Y th 0) * (dw_i Y th 1))))) (YJ := fun a4 => a4.2) (pcJ := 15) (LJ := fun a4 => [(4, .int a4.1), (3, .ref (b + q1)), (0, .ref (b + th)), (1, .int x0), (2, dw_v b r1)]) (stJ := fun a4 => []) (fun k5 hk5 a4 => ?_) n (v3, Y2)
  refine e_iload (z := tw_cz z 1 (0 + (Int32.toNatClampNeg ((dw_i Y th 0) * (dw_i Y th 1))))) X dX13_far_15 0 rfl ?_
  refine e_aload_n (z := tw_cz z 1 (0 + (Int32.toNatClampNeg ((dw_i Y th 0) * (dw_i Y th 1))))) X dX13_far_17 rfl 1 rfl ?_
  refine e_alen (k := q1) (kd := 20) (a := 0) (ty := .int) (x := (0, .inl (dw_i a4.2 q1))) (z := tw_cz z 1 (0 + (Int32.toNatClampNeg ((dw_i Y th 0) * (dw_i Y th 1))))) X dX13_far_18 (by decide) (fun h => dw_E20 h) rfl ?_
  refine e_icmp_ge (z := tw_cz z 1 (0 + (Int32.toNatClampNeg ((dw_i Y th 0) * (dw_i Y th 1))))) X dX13_far_19 (tgt := 45) (by decide) ?_ ?_
  ·
    refine e_iconst (z := tw_cz z 1 (0 + (Int32.toNatClampNeg ((dw_i Y th 0) * (dw_i Y th 1))))) X dX13_far_45 (v := (1 : Int32)) (by decide) ?_
    refine e_istore (z := tw_cz z 1 (0 + (Int32.toNatClampNeg ((dw_i Y th 0) * (dw_i Y th 1))))) X dX13_far_46 (by decide) (LL := fun v6 => [(4, .int v6), (3, .ref (b + q1)), (0, .ref (b + th)), (1, .int x0), (2, dw_v b r1)]) (fun _ => rfl) (fun v6 => ?_)
    refine dw_Rf.sub [0, 1, 2, 4] rfl ?_
    refine e_lp (α := Int32 × dw_S) (zJ := fun a7 => tw_cz z 1 (0 + (Int32.toNatClampNeg ((dw_i Y th 0) * (dw_i Y th 1))))) (YJ := fun a7 => a7.2) (pcJ := 48) (LJ := fun a7 => [(4, .int a7.1), (3, .ref (b + q1)), (0, .ref (b + th)), (2, dw_v b r1)]) (stJ := fun a7 => []) (fun k8 hk8 a7 => ?_) n (v6, a4.2)
    refine e_iload (z := tw_cz z 1 (0 + (Int32.toNatClampNeg ((dw_i Y th 0) * (dw_i Y th 1))))) X dX13_far_48 0 rfl ?_
    refine e_if_eq (z := tw_cz z 1 (0 + (Int32.toNatClampNeg ((dw_i Y th 0) * (dw_i Y th 1))))) X dX13_far_50 (tgt := 156) (by decide) ?_ ?_
    ·
      refine e_aload_n (z := tw_cz z 1 (0 + (Int32.toNatClampNeg ((dw_i Y th 0) * (dw_i Y th 1))))) X dX13_far_156 rfl 1 rfl ?_
      exact e_aret (z := z) X eB dX13_far_157 hret (Or.inr ⟨_, rfl⟩) (Or.inr ⟨_, rfl⟩) ⟨eMC, eMS⟩ hQ rfl rfl
    ·
      refine e_iconst (z := tw_cz z 1 (0 + (Int32.toNatClampNeg ((dw_i Y th 0) * (dw_i Y th 1))))) X dX13_far_53 (v := (0 : Int32)) (by decide) ?_
      refine e_istore (z := tw_cz z 1 (0 + (Int32.toNatClampNeg ((dw_i Y th 0) * (dw_i Y th 1))))) X dX13_far_54 (by decide) (LL := fun v9 => [(4, .int v9), (3, .ref (b + q1)), (0, .ref (b + th)), (2, dw_v b r1)]) (fun _ => rfl) (fun v9 => ?_)
      refine e_iconst (z := tw_cz z 1 (0 + (Int32.toNatClampNeg ((dw_i Y th 0) * (dw_i Y th 1))))) X dX13_far_56 (v := (0 : Int32)) (by decide) ?_
      refine e_istore (z := tw_cz z 1 (0 + (Int32.toNatClampNeg ((dw_i Y th 0) * (dw_i Y th 1))))) X dX13_far_57 (by decide) (LL := fun v10 => [(5, .int v10), (4, .int v9), (3, .ref (b + q1)), (0, .ref (b + th)), (2, dw_v b r1)]) (fun _ => rfl) (fun v10 => ?_)
      refine e_lp (α := Int32 × Int32 × dw_S) (zJ := fun a11 => tw_cz z 1 (0 + (Int32.toNatClampNeg ((dw_i Y th 0) * (dw_i Y th 1))))) (YJ := fun a11 => a11.2.2) (pcJ := 59) (LJ := fun a11 => [(5, .int a11.2.1), (4, .int a11.1), (3, .ref (b + q1)), (0, .ref (b + th)), (2, dw_v b r1)]) (stJ := fun a11 => []) (fun k12 hk12 a11 => ?_) n (v9, v10, a7.2)
      refine e_iload (z := tw_cz z 1 (0 + (Int32.toNatClampNeg ((dw_i Y th 0) * (dw_i Y th 1))))) X dX13_far_59 0 rfl ?_
      refine e_aload_n (z := tw_cz z 1 (0 + (Int32.toNatClampNeg ((dw_i Y th 0) * (dw_i Y th 1))))) X dX13_far_61 rfl 2 rfl ?_
      refine e_alen (k := q1) (kd := 20) (a := 0) (ty := .int) (x := (0, .inl (dw_i a11.2.2 q1))) (z := tw_cz z 1 (0 + (Int32.toNatClampNeg ((dw_i Y th 0) * (dw_i Y th 1))))) X dX13_far_62 (by decide) (fun h => dw_E20 h) rfl ?_
      refine e_icmp_ge (z := tw_cz z 1 (0 + (Int32.toNatClampNeg ((dw_i Y th 0) * (dw_i Y th 1))))) X dX13_far_63 (tgt := 153) (by decide) ?_ ?_
      ·
        refine e_goto (z := tw_cz z 1 (0 + (Int32.toNatClampNeg ((dw_i Y th 0) * (dw_i Y th 1))))) X dX13_far_153 (tgt := 48) (by decide) ?_
        exact dw_Rf.sub [1, 2, 3, 4] rfl (hk8 (a11.1, a11.2.2))
      ·
        refine e_iconst (z := tw_cz z 1 (0 + (Int32.toNatClampNeg ((dw_i Y th 0) * (dw_i Y th 1))))) X dX13_far_66 (v := (0 : Int32)) (by decide) ?_
        refine e_istore (z := tw_cz z 1 (0 + (Int32.toNatClampNeg ((dw_i Y th 0) * (dw_i Y th 1))))) X dX13_far_67 (by decide) (LL := fun v13 => [(6, .int v13), (5, .int a11.2.1), (4, .int a11.1), (3, .ref (b + q1)), (0, .ref (b + th)), (2, dw_v b r1)]) (fun _ => rfl) (fun v13 => ?_)
        refine e_lp (α := Int32 × Int32 × Int32 × dw_S) (zJ := fun a14 => tw_cz z 1 (0 + (Int32.toNatClampNeg ((dw_i Y th 0) * (dw_i Y th 1))))) (YJ := fun a14 => a14.2.2.2) (pcJ := 69) (LJ := fun a14 => [(6, .int a14.2.2.1), (5, .int a14.2.1), (4, .int a14.1), (3, .ref (b + q1)), (0, .ref (b + th)), (2, dw_v b r1)]) (stJ := fun a14 => []) (fun k15 hk15 a14 => ?_) n (a11.1, a11.2.1, v13, a11.2.2)
        refine e_iload (z := tw_cz z 1 (0 + (Int32.toNatClampNeg ((dw_i Y th 0) * (dw_i Y th 1))))) X dX13_far_69 0 rfl ?_
        refine e_bipush (z := tw_cz z 1 (0 + (Int32.toNatClampNeg ((dw_i Y th 0) * (dw_i Y th 1))))) X dX13_far_71 (v := (8 : Int32)) (by decide) ?_
        refine e_jn (α := Unit) (zJ := fun a16 => tw_cz z 1 (0 + (Int32.toNatClampNeg ((dw_i Y th 0) * (dw_i Y th 1))))) (YJ := fun a16 => a14.2.2.2) (pcJ := 147) (LJ := fun a16 => [(5, .int a14.2.1), (4, .int a14.1), (3, .ref (b + q1)), (0, .ref (b + th)), (2, dw_v b r1)]) (stJ := fun a16 => []) (fun a16 => ?_) (fun j17 hj17 => ?_)
        ·
          refine e_iinc (z := tw_cz z 1 (0 + (Int32.toNatClampNeg ((dw_i Y th 0) * (dw_i Y th 1))))) X dX13_far_147 0 rfl (v := (1 : Int32)) (by decide) (by decide) (LL := fun v18 => [(5, .int v18), (4, .int a14.1), (3, .ref (b + q1)), (0, .ref (b + th)), (2, dw_v b r1)]) (fun _ => rfl) (fun v18 => ?_)
          refine e_goto (z := tw_cz z 1 (0 + (Int32.toNatClampNeg ((dw_i Y th 0) * (dw_i Y th 1))))) X dX13_far_150 (tgt := 59) (by decide) ?_
          exact hk12 (a14.1, v18, a14.2.2.2)
        refine e_icmp_ge (z := tw_cz z 1 (0 + (Int32.toNatClampNeg ((dw_i Y th 0) * (dw_i Y th 1))))) X dX13_far_73 (tgt := 147) (by decide) ?_ ?_
        ·
          exact dw_Rf.sub [1, 2, 3, 4, 5] rfl (hj17 ())
        ·
          refine e_aload_n (z := tw_cz z 1 (0 + (Int32.toNatClampNeg ((dw_i Y th 0) * (dw_i Y th 1))))) X dX13_far_76 rfl 3 rfl ?_
          refine e_iload (z := tw_cz z 1 (0 + (Int32.toNatClampNeg ((dw_i Y th 0) * (dw_i Y th 1))))) X dX13_far_77 1 rfl ?_
          refine e_iald (k := q1) (z := tw_cz z 1 (0 + (Int32.toNatClampNeg ((dw_i Y th 0) * (dw_i Y th 1))))) X dX13_far_79 ?_
          refine e_sipush (z := tw_cz z 1 (0 + (Int32.toNatClampNeg ((dw_i Y th 0) * (dw_i Y th 1))))) X dX13_far_80 (v := (9999 : Int32)) (by decide) ?_
          refine e_icmp_ge (z := tw_cz z 1 (0 + (Int32.toNatClampNeg ((dw_i Y th 0) * (dw_i Y th 1))))) X dX13_far_83 (tgt := 147) (by decide) ?_ ?_
          ·
            exact dw_Rf.sub [1, 2, 3, 4, 5] rfl (hj17 ())
          ·
            refine e_aload_n (z := tw_cz z 1 (0 + (Int32.toNatClampNeg ((dw_i Y th 0) * (dw_i Y th 1))))) X dX13_far_86 rfl 4 rfl ?_
            refine e_iload (z := tw_cz z 1 (0 + (Int32.toNatClampNeg ((dw_i Y th 0) * (dw_i Y th 1))))) X dX13_far_87 1 rfl ?_
            refine e_iload (z := tw_cz z 1 (0 + (Int32.toNatClampNeg ((dw_i Y th 0) * (dw_i Y th 1))))) X dX13_far_89 0 rfl ?_
            refine e_callV (k := th) (ci := 13) (Cn := "TreasureWalkLaw$Island") (T := TX13) (N := 13) (c := 1) (s := (0 + (Int32.toNatClampNeg ((dw_i Y th 0) * (dw_i Y th 1))))) (As := [.int a14.2.1, .int a14.2.2.1]) (z := tw_cz z 1 (0 + (Int32.toNatClampNeg ((dw_i Y th 0) * (dw_i Y th 1))))) X hA hb hD ⟨rfl, rfl⟩ ⟨eMC, eMS⟩ dX13_far_91 (fun Q h => dw_m_X13_neighbour hD h) dw_y_X13_neighbour dw_v_X13_neighbour _ dw_w709 (by decide) rfl (fun h => dw_E13 h) rfl ⟨tw_le hfr rfl, tw_le hlo rfl⟩ (Nat.le_of_ble_eq_true rfl) rfl (fun r19 => ?_)
            show dw_Rf (tw_cz z 1 (0 + (Int32.toNatClampNeg ((dw_i Y th 0) * (dw_i Y th 1))))) b _ a14.2.2.2 _ [(6, .int a14.2.2.1), (5, .int a14.2.1), (4, .int a14.1), (3, .ref (b + q1)), (0, .ref (b + th)), (2, dw_v b r1)] [.int r19]
            refine e_istore (z := tw_cz z 1 (0 + (Int32.toNatClampNeg ((dw_i Y th 0) * (dw_i Y th 1))))) X dX13_far_94 (by decide) (LL := fun v20 => [(7, .int v20), (6, .int a14.2.2.1), (5, .int a14.2.1), (4, .int a14.1), (3, .ref (b + q1)), (0, .ref (b + th)), (2, dw_v b r1)]) (fun _ => rfl) (fun v20 => ?_)
            refine e_iload (z := tw_cz z 1 (0 + (Int32.toNatClampNeg ((dw_i Y th 0) * (dw_i Y th 1))))) X dX13_far_96 0 rfl ?_
            refine e_jn (α := Int32 × dw_S) (zJ := fun a21 => tw_cz z 1 (0 + (Int32.toNatClampNeg ((dw_i Y th 0) * (dw_i Y th 1))))) (YJ := fun a21 => a21.2) (pcJ := 141) (LJ := fun a21 => [(6, .int a14.2.2.1), (5, .int a14.2.1), (4, .int a21.1), (3, .ref (b + q1)), (0, .ref (b + th)), (2, dw_v b r1)]) (stJ := fun a21 => []) (fun a21 => ?_) (fun j22 hj22 => ?_)
            ·
              refine e_iinc (z := tw_cz z 1 (0 + (Int32.toNatClampNeg ((dw_i Y th 0) * (dw_i Y th 1))))) X dX13_far_141 0 rfl (v := (1 : Int32)) (by decide) (by decide) (LL := fun v23 => [(6, .int v23), (5, .int a14.2.1), (4, .int a21.1), (3, .ref (b + q1)), (0, .ref (b + th)), (2, dw_v b r1)]) (fun _ => rfl) (fun v23 => ?_)
              refine e_goto (z := tw_cz z 1 (0 + (Int32.toNatClampNeg ((dw_i Y th 0) * (dw_i Y th 1))))) X dX13_far_144 (tgt := 69) (by decide) ?_
              exact hk15 (a21.1, a14.2.1, v23, a21.2)
            refine e_if_lt (z := tw_cz z 1 (0 + (Int32.toNatClampNeg ((dw_i Y th 0) * (dw_i Y th 1))))) X dX13_far_98 (tgt := 141) (by decide) ?_ ?_
            ·
              exact dw_Rf.sub [1, 2, 3, 4, 5, 6] rfl (hj22 (a14.1, a14.2.2.2))
            ·
              refine e_aload_rn (z := tw_cz z 1 (0 + (Int32.toNatClampNeg ((dw_i Y th 0) * (dw_i Y th 1))))) X dX13_far_101 rfl 6 rfl ?_
              refine e_jn (α := Unit) (zJ := fun a24 => tw_cz z 1 (0 + (Int32.toNatClampNeg ((dw_i Y th 0) * (dw_i Y th 1))))) (YJ := fun a24 => a14.2.2.2) (pcJ := 112) (LJ := fun a24 => [(7, .int v20), (6, .int a14.2.2.1), (5, .int a14.2.1), (4, .int a14.1), (3, .ref (b + q1)), (0, .ref (b + th)), (2, dw_v b r1)]) (stJ := fun a24 => []) (fun a24 => ?_) (fun j25 hj25 => ?_)
              ·
                refine e_aload_n (z := tw_cz z 1 (0 + (Int32.toNatClampNeg ((dw_i Y th 0) * (dw_i Y th 1))))) X dX13_far_112 rfl 4 rfl ?_
                refine e_iload (z := tw_cz z 1 (0 + (Int32.toNatClampNeg ((dw_i Y th 0) * (dw_i Y th 1))))) X dX13_far_113 0 rfl ?_
                refine e_iald (k := q1) (z := tw_cz z 1 (0 + (Int32.toNatClampNeg ((dw_i Y th 0) * (dw_i Y th 1))))) X dX13_far_115 ?_
                refine e_aload_n (z := tw_cz z 1 (0 + (Int32.toNatClampNeg ((dw_i Y th 0) * (dw_i Y th 1))))) X dX13_far_116 rfl 4 rfl ?_
                refine e_iload (z := tw_cz z 1 (0 + (Int32.toNatClampNeg ((dw_i Y th 0) * (dw_i Y th 1))))) X dX13_far_117 2 rfl ?_
                refine e_iald (k := q1) (z := tw_cz z 1 (0 + (Int32.toNatClampNeg ((dw_i Y th 0) * (dw_i Y th 1))))) X dX13_far_119 ?_
                refine e_iconst (z := tw_cz z 1 (0 + (Int32.toNatClampNeg ((dw_i Y th 0) * (dw_i Y th 1))))) X dX13_far_120 (v := (1 : Int32)) (by decide) ?_
                refine e_iadd (z := tw_cz z 1 (0 + (Int32.toNatClampNeg ((dw_i Y th 0) * (dw_i Y th 1))))) X dX13_far_121 ?_
                refine e_icmp_gt (z := tw_cz z 1 (0 + (Int32.toNatClampNeg ((dw_i Y th 0) * (dw_i Y th 1))))) X dX13_far_122 (tgt := 128) (by decide) ?_ ?_
                ·
                  refine e_aload_n (z := tw_cz z 1 (0 + (Int32.toNatClampNeg ((dw_i Y th 0) * (dw_i Y th 1))))) X dX13_far_128 rfl 4 rfl ?_
                  refine e_iload (z := tw_cz z 1 (0 + (Int32.toNatClampNeg ((dw_i Y th 0) * (dw_i Y th 1))))) X dX13_far_129 0 rfl ?_
                  refine e_aload_n (z := tw_cz z 1 (0 + (Int32.toNatClampNeg ((dw_i Y th 0) * (dw_i Y th 1))))) X dX13_far_131 rfl 4 rfl ?_
                  refine e_iload (z := tw_cz z 1 (0 + (Int32.toNatClampNeg ((dw_i Y th 0) * (dw_i Y th 1))))) X dX13_far_132 2 rfl ?_
                  refine e_iald (k := q1) (z := tw_cz z 1 (0 + (Int32.toNatClampNeg ((dw_i Y th 0) * (dw_i Y th 1))))) X dX13_far_134 ?_
                  refine e_iconst (z := tw_cz z 1 (0 + (Int32.toNatClampNeg ((dw_i Y th 0) * (dw_i Y th 1))))) X dX13_far_135 (v := (1 : Int32)) (by decide) ?_
                  refine e_iadd (z := tw_cz z 1 (0 + (Int32.toNatClampNeg ((dw_i Y th 0) * (dw_i Y th 1))))) X dX13_far_136 ?_
                  refine e_iast (k := q1) (z := tw_cz z 1 (0 + (Int32.toNatClampNeg ((dw_i Y th 0) * (dw_i Y th 1))))) X hb dX13_far_137 (fun Y26 => ?_)
                  refine e_iconst (z := tw_cz z 1 (0 + (Int32.toNatClampNeg ((dw_i Y th 0) * (dw_i Y th 1))))) X dX13_far_138 (v := (1 : Int32)) (by decide) ?_
                  refine e_istore (z := tw_cz z 1 (0 + (Int32.toNatClampNeg ((dw_i Y th 0) * (dw_i Y th 1))))) X dX13_far_139 (by decide) (LL := fun v27 => [(4, .int v27), (7, .int v20), (6, .int a14.2.2.1), (5, .int a14.2.1), (3, .ref (b + q1)), (0, .ref (b + th)), (2, dw_v b r1)]) (fun _ => rfl) (fun v27 => ?_)
                  exact dw_Rf.sub [2, 3, 0, 4, 5, 6] rfl (hj22 (v27, Y26))
                ·
                  refine e_goto (z := tw_cz z 1 (0 + (Int32.toNatClampNeg ((dw_i Y th 0) * (dw_i Y th 1))))) X dX13_far_125 (tgt := 141) (by decide) ?_
                  exact dw_Rf.sub [1, 2, 3, 4, 5, 6] rfl (hj22 (a14.1, a14.2.2.2))
              refine e_ifnull (r := r1) (LL := fun q => [(7, .int v20), (6, .int a14.2.2.1), (5, .int a14.2.1), (4, .int a14.1), (3, .ref (b + q1)), (0, .ref (b + th)), (2, dw_v b r1)]) (z := tw_cz z 1 (0 + (Int32.toNatClampNeg ((dw_i Y th 0) * (dw_i Y th 1))))) X dX13_far_102 (tgt := 112) (by decide) ?_ (fun r28 => ?_)
              ·
                show dw_Rf (tw_cz z 1 (0 + (Int32.toNatClampNeg ((dw_i Y th 0) * (dw_i Y th 1))))) b _ a14.2.2.2 _ [(7, .int v20), (6, .int a14.2.2.1), (5, .int a14.2.1), (4, .int a14.1), (3, .ref (b + q1)), (0, .ref (b + th)), (2, dw_v b r1)] []
                exact hj25 ()
              ·
                show dw_Rf (tw_cz z 1 (0 + (Int32.toNatClampNeg ((dw_i Y th 0) * (dw_i Y th 1))))) b _ a14.2.2.2 _ [(7, .int v20), (6, .int a14.2.2.1), (5, .int a14.2.1), (4, .int a14.1), (3, .ref (b + q1)), (0, .ref (b + th)), (2, dw_v b r1)] []
                refine e_aload_rn (z := tw_cz z 1 (0 + (Int32.toNatClampNeg ((dw_i Y th 0) * (dw_i Y th 1))))) X dX13_far_105 rfl 6 rfl ?_
                refine e_iload (z := tw_cz z 1 (0 + (Int32.toNatClampNeg ((dw_i Y th 0) * (dw_i Y th 1))))) X dX13_far_106 0 rfl ?_
                refine e_nn (r := r1) (LL := fun _ => [(7, .int v20), (6, .int a14.2.2.1), (5, .int a14.2.1), (4, .int a14.1), (3, .ref (b + q1)), (0, .ref (b + th)), (2, dw_v b r1)]) (SS := fun q => [.int v20, dw_v b q]) (fun r29 => ?_)
                show dw_Rf (tw_cz z 1 (0 + (Int32.toNatClampNeg ((dw_i Y th 0) * (dw_i Y th 1))))) b _ a14.2.2.2 _ [(7, .int v20), (6, .int a14.2.2.1), (5, .int a14.2.1), (4, .int a14.1), (3, .ref (b + q1)), (0, .ref (b + th)), (2, dw_v b r1)] [.int v20, .ref (b + r29)]
                refine e_zald (k := r29) (z := tw_cz z 1 (0 + (Int32.toNatClampNeg ((dw_i Y th 0) * (dw_i Y th 1))))) X dX13_far_108 ?_
                refine e_if_eq (z := tw_cz z 1 (0 + (Int32.toNatClampNeg ((dw_i Y th 0) * (dw_i Y th 1))))) X dX13_far_109 (tgt := 141) (by decide) ?_ ?_
                ·
                  exact dw_Rf.sub [1, 2, 3, 4, 5, 6] rfl (hj22 (a14.1, a14.2.2.2))
                ·
                  exact hj25 ()
  ·
    refine e_aload_n (z := tw_cz z 1 (0 + (Int32.toNatClampNeg ((dw_i Y th 0) * (dw_i Y th 1))))) X dX13_far_22 rfl 1 rfl ?_
    refine e_iload (z := tw_cz z 1 (0 + (Int32.toNatClampNeg ((dw_i Y th 0) * (dw_i Y th 1))))) X dX13_far_23 0 rfl ?_
    refine e_iload (z := tw_cz z 1 (0 + (Int32.toNatClampNeg ((dw_i Y th 0) * (dw_i Y th 1))))) X dX13_far_25 0 rfl ?_
    refine e_iload_n (z := tw_cz z 1 (0 + (Int32.toNatClampNeg ((dw_i Y th 0) * (dw_i Y th 1))))) X dX13_far_27 rfl 3 rfl ?_
    refine e_jn (α := Int32) (zJ := fun a30 => tw_cz z 1 (0 + (Int32.toNatClampNeg ((dw_i Y th 0) * (dw_i Y th 1))))) (YJ := fun a30 => a4.2) (pcJ := 38) (LJ := fun a30 => [(4, .int a4.1), (3, .ref (b + q1)), (0, .ref (b + th)), (1, .int x0), (2, dw_v b r1)]) (stJ := fun a30 => [.int a30, .int a4.1, .ref (b + q1)]) (fun a30 => ?_) (fun j31 hj31 => ?_)
    ·
      refine e_iast (k := q1) (z := tw_cz z 1 (0 + (Int32.toNatClampNeg ((dw_i Y th 0) * (dw_i Y th 1))))) X hb dX13_far_38 (fun Y32 => ?_)
      refine e_iinc (z := tw_cz z 1 (0 + (Int32.toNatClampNeg ((dw_i Y th 0) * (dw_i Y th 1))))) X dX13_far_39 0 rfl (v := (1 : Int32)) (by decide) (by decide) (LL := fun v33 => [(4, .int v33), (3, .ref (b + q1)), (0, .ref (b + th)), (1, .int x0), (2, dw_v b r1)]) (fun _ => rfl) (fun v33 => ?_)
      refine e_goto (z := tw_cz z 1 (0 + (Int32.toNatClampNeg ((dw_i Y th 0) * (dw_i Y th 1))))) X dX13_far_42 (tgt := 15) (by decide) ?_
      exact hk5 (v33, Y32)
    refine e_icmp_ne (z := tw_cz z 1 (0 + (Int32.toNatClampNeg ((dw_i Y th 0) * (dw_i Y th 1))))) X dX13_far_28 (tgt := 35) (by decide) ?_ ?_
    ·
      refine e_sipush (z := tw_cz z 1 (0 + (Int32.toNatClampNeg ((dw_i Y th 0) * (dw_i Y th 1))))) X dX13_far_35 (v := (9999 : Int32)) (by decide) ?_
      exact hj31 (9999 : Int32)
    ·
      refine e_iconst (z := tw_cz z 1 (0 + (Int32.toNatClampNeg ((dw_i Y th 0) * (dw_i Y th 1))))) X dX13_far_31 (v := (0 : Int32)) (by decide) ?_
      refine e_goto (z := tw_cz z 1 (0 + (Int32.toNatClampNeg ((dw_i Y th 0) * (dw_i Y th 1))))) X dX13_far_32 (tgt := 38) (by decide) ?_
      exact hj31 (0 : Int32)
def dw_P_X13_digs (th : Nat) (Y : dw_S) (Q : Int32 × dw_S → Prop) : Prop :=
pw_ck (dw_is Y th 13) (
pw_nn (dw_r Y th 3) (fun (r1 : Nat) =>
pw_ck (dw_is Y th 13) (
pw_ck (dw_is Y r1 21 ∧ tw_ok (dw_i Y th 7) (dw_l Y r1) = true) (
if (dw_i Y r1 (Int32.toNatClampNeg (dw_i Y th 7))) = 0 then (pw_ck (dw_is Y th 13) (
pw_nn (dw_r Y th 3) (fun (r2 : Nat) =>
pw_ck (dw_is Y th 13) (
pw_ck (dw_is Y r2 21 ∧ tw_ok (dw_i Y th 7) (dw_l Y r2) = true) (pw_lt (dw_pi Y r2 (Int32.toNatClampNeg (dw_i Y th 7)) (vp_nar .boolean (1 : Int32))) (fun (Y3 : dw_S) =>
pw_ck (dw_is Y3 th 13) (
tw_jn (fun (a4 : Unit) =>
Q ((1 : Int32), Y3)) (fun (j5 : (Unit) → Prop) =>
if ¬ (dw_i Y3 th 9) = (1 : Int32) then (j5 ())
else (pw_ck (dw_is Y3 th 13) (
pw_ck (dw_is Y3 th 13) (
if (dw_i Y3 th 10) = (dw_i Y3 th 7) then (pw_ck (dw_is Y3 th 13) (pw_lt (dw_pi Y3 th 9 (2 : Int32)) (fun (Y6 : dw_S) =>
Q ((2 : Int32), Y6))))
else (j5 ()))))))))))))
else (Q ((0 : Int32), Y))))))
theorem dw_y_X13_digs : tw_My yX13_digs cX13_digs 1 (some .int) 0 := ⟨List.mem_of_getElem? dw_w726, List.mem_of_getElem? dw_w50, by decide +kernel, by decide +kernel, by decide +kernel⟩
theorem dw_v_X13_digs : dw_Mv yX13_digs "TreasureWalkLaw$Island" := ⟨List.mem_of_getElem? dw_w724, List.mem_of_getElem? dw_w725⟩
set_option maxRecDepth 100000 in
set_option maxHeartbeats 4000000 in
theorem dw_m_X13_digs {l : Launch} {b : Nat} {D : tw_G} {C : Nat → ClassId} {S : Nat → Nat} (hD : D.2 = []) {th : Nat} {Y : dw_S} {Q : Int32 × dw_S → Prop}  (h : dw_P_X13_digs th Y Q) : dw_Met l b D C S yX13_digs cX13_digs 1 (some .int) ({ frames := 0, cells := 0, slots := 0, locals := 0 } : Room) [.ref (b + th)] Y (fun r => some (.int r.1)) (fun r => r.2) Q := by
  refine dw_metOf (dw_P_X13_digs th Y Q) h _ _ Q (by decide +kernel) (Nat.le_of_ble_eq_true rfl) ?_
  intro z el eB eD eC eS eR X hA hnm hret hQ
  subst el eD eC eS
  have hb : tw_zB z ≤ b := Nat.le_of_eq eB
  have hA : dw_AK (tw_zB z) (tw_zS z) (tw_zs z) := by rw [eB]; exact hA
  have hfr : (tw_zR z).frames = 0 := by rw [eR]
  have hlo : (tw_zR z).locals = 0 := by rw [eR]
  have eMC : (tw_zR z).cells = 0 := by rw [eR]
  have eMS : (tw_zR z).slots = 0 := by rw [eR]
  have X : tw_X z cX13_digs "TreasureWalkLaw$Island" 1 := X
  show dw_Rf (tw_cz z 0 0) b _ Y 0 [(0, .ref (b + th))] []
  unfold dw_P_X13_digs
  refine e_aload_n (z := tw_cz z 0 0) X dX13_digs_0 rfl 0 rfl ?_
  refine e_getf (ci := 13) (T := TX13) (f := 3) (k := th) (z := tw_cz z 0 0) X dX13_digs_1 (Or.inl ⟨_, dw_w596⟩) dw_in13 rfl (by decide) (by decide) (fun h => dw_E13 h) rfl ?_
  refine e_nn (r := (dw_r Y th 3)) (LL := fun _ => [(0, .ref (b + th))]) (SS := fun q => dw_v b q :: []) (fun r1 => ?_)
  show dw_Rf (tw_cz z 0 0) b _ Y _ [(0, .ref (b + th))] [.ref (b + r1)]
  refine e_aload_n (z := tw_cz z 0 0) X dX13_digs_4 rfl 0 rfl ?_
  refine e_getf (ci := 13) (T := TX13) (f := 7) (k := th) (z := tw_cz z 0 0) X dX13_digs_5 (Or.inl ⟨_, dw_w604⟩) dw_in13 rfl (by decide) (by decide) (fun h => dw_E13 h) rfl ?_
  refine e_zald (k := r1) (z := tw_cz z 0 0) X dX13_digs_8 ?_
  refine e_if_eq (z := tw_cz z 0 0) X dX13_digs_9 (tgt := 14) (by decide) ?_ ?_
  ·
    refine e_aload_n (z := tw_cz z 0 0) X dX13_digs_14 rfl 0 rfl ?_
    refine e_getf (ci := 13) (T := TX13) (f := 3) (k := th) (z := tw_cz z 0 0) X dX13_digs_15 (Or.inl ⟨_, dw_w596⟩) dw_in13 rfl (by decide) (by decide) (fun h => dw_E13 h) rfl ?_
    refine e_nn (r := (dw_r Y th 3)) (LL := fun _ => [(0, .ref (b + th))]) (SS := fun q => dw_v b q :: []) (fun r2 => ?_)
    show dw_Rf (tw_cz z 0 0) b _ Y _ [(0, .ref (b + th))] [.ref (b + r2)]
    refine e_aload_n (z := tw_cz z 0 0) X dX13_digs_18 rfl 0 rfl ?_
    refine e_getf (ci := 13) (T := TX13) (f := 7) (k := th) (z := tw_cz z 0 0) X dX13_digs_19 (Or.inl ⟨_, dw_w604⟩) dw_in13 rfl (by decide) (by decide) (fun h => dw_E13 h) rfl ?_
    refine e_iconst (z := tw_cz z 0 0) X dX13_digs_22 (v := (1 : Int32)) (by decide) ?_
    refine e_zast (k := r2) (z := tw_cz z 0 0) X hb dX13_digs_23 (fun Y3 => ?_)
    refine e_aload_n (z := tw_cz z 0 0) X dX13_digs_24 rfl 0 rfl ?_
    refine e_getf (ci := 13) (T := TX13) (f := 9) (k := th) (z := tw_cz z 0 0) X dX13_digs_25 (Or.inl ⟨_, dw_w608⟩) dw_in13 rfl (by decide) (by decide) (fun h => dw_E13 h) rfl ?_
    refine e_iconst (z := tw_cz z 0 0) X dX13_digs_28 (v := (1 : Int32)) (by decide) ?_
    refine e_jn (α := Unit) (zJ := fun a4 => tw_cz z 0 0) (YJ := fun a4 => Y3) (pcJ := 43) (LJ := fun a4 => []) (stJ := fun a4 => []) (fun a4 => ?_) (fun j5 hj5 => ?_)
    ·
      refine e_iconst (z := tw_cz z 0 0) X dX13_digs_43 (v := (1 : Int32)) (by decide) ?_
      exact dw_ckp (by exact ⟨Nat.le_of_ble_eq_true rfl, Nat.le_of_ble_eq_true rfl⟩) (e_iret (z := z) X eB dX13_digs_44 hret ⟨eMC, eMS⟩ hQ rfl rfl)
    refine e_icmp_ne (z := tw_cz z 0 0) X dX13_digs_29 (tgt := 43) (by decide) ?_ ?_
    ·
      exact dw_Rf.sub [] rfl (hj5 ())
    ·
      refine e_aload_n (z := tw_cz z 0 0) X dX13_digs_32 rfl 0 rfl ?_
      refine e_getf (ci := 13) (T := TX13) (f := 10) (k := th) (z := tw_cz z 0 0) X dX13_digs_33 (Or.inl ⟨_, dw_w610⟩) dw_in13 rfl (by decide) (by decide) (fun h => dw_E13 h) rfl ?_
      refine e_aload_n (z := tw_cz z 0 0) X dX13_digs_36 rfl 0 rfl ?_
      refine e_getf (ci := 13) (T := TX13) (f := 7) (k := th) (z := tw_cz z 0 0) X dX13_digs_37 (Or.inl ⟨_, dw_w604⟩) dw_in13 rfl (by decide) (by decide) (fun h => dw_E13 h) rfl ?_
      refine e_icmp_eq (z := tw_cz z 0 0) X dX13_digs_40 (tgt := 45) (by decide) ?_ ?_
      ·
        refine e_aload_n (z := tw_cz z 0 0) X dX13_digs_45 rfl 0 rfl ?_
        refine e_iconst (z := tw_cz z 0 0) X dX13_digs_46 (v := (2 : Int32)) (by decide) ?_
        show dw_Rf (tw_cz z 0 0) b _ Y3 _ [(0, .ref (b + th))] (.int (2 : Int32) :: .ref (b + th) :: [])
        refine e_put (ci := 13) (T := TX13) (f := 9) (ty := .int) (k := th) (z := tw_cz z 0 0) X hb dX13_digs_47 (Or.inl ⟨_, dw_w608⟩) dw_in13 tyX13 tyX13_ok nmX13 rfl (by decide) rfl (by decide +kernel) rfl rfl (by decide) (fun h => dw_F13 h) (Nat.le_of_ble_eq_true rfl) (fun h => dw_p13_9 h) rfl rfl rfl (fun a ha => dw_E_pi ha) (fun Y6 => ?_)
        refine e_iconst (z := tw_cz z 0 0) X dX13_digs_50 (v := (2 : Int32)) (by decide) ?_
        exact dw_ckp (by exact ⟨Nat.le_of_ble_eq_true rfl, Nat.le_of_ble_eq_true rfl⟩) (e_iret (z := z) X eB dX13_digs_51 hret ⟨eMC, eMS⟩ hQ rfl rfl)
      ·
        exact dw_Rf.sub [] rfl (hj5 ())
  ·
    refine e_iconst (z := tw_cz z 0 0) X dX13_digs_12 (v := (0 : Int32)) (by decide) ?_
    exact dw_ckp (by exact ⟨Nat.le_of_ble_eq_true rfl, Nat.le_of_ble_eq_true rfl⟩) (e_iret (z := z) X eB dX13_digs_13 hret ⟨eMC, eMS⟩ hQ rfl rfl)
