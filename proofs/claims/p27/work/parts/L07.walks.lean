theorem dw_w6 : lw_tbl[6]? = some (Cond.selects "TreasureWalkLaw$Island" ⟨"TreasureWalkLaw$Island", "tries", "(LTreasureWalkLaw$Clue;III)V"⟩ ⟨"TreasureWalkLaw$Island", "tries", "(LTreasureWalkLaw$Clue;III)V"⟩) := by decide +kernel
theorem dw_w586 : lw_tbl[586]? = some ((Jvm.Cond.classLink "TreasureWalkLaw$Island" (27 : Nat) "[I")) := by decide +kernel
theorem dw_w602 : lw_tbl[602]? = some ((Jvm.Cond.fieldLink "TreasureWalkLaw$Island" (34 : Nat) "TreasureWalkLaw$Island" "clues" "[LTreasureWalkLaw$Clue;")) := by decide +kernel
theorem dw_w606 : lw_tbl[606]? = some ((Jvm.Cond.fieldLink "TreasureWalkLaw$Island" (63 : Nat) "TreasureWalkLaw$Island" "paces" "I")) := by decide +kernel
theorem dw_w612 : lw_tbl[612]? = some ((Jvm.Cond.fieldLink "TreasureWalkLaw$Island" (99 : Nat) "TreasureWalkLaw$Island" "found" "[[I")) := by decide +kernel
theorem dw_w613 : lw_tbl[613]? = some ((Jvm.Cond.fieldLink "TreasureWalkLaw$Island" (38 : Nat) "TreasureWalkLaw$Island" "now" "[I")) := by decide +kernel
theorem dw_w650 : lw_tbl[650]? = some ((Jvm.Cond.native ({ cls := "java/lang/Object", name := "clone", desc := "()Ljava/lang/Object;" } : Jvm.MethodName))) := by decide +kernel
theorem dw_w651 : lw_tbl[651]? = some ((Jvm.Cond.instanceMethod ({ cls := "java/lang/Object", name := "clone", desc := "()Ljava/lang/Object;" } : Jvm.MethodName))) := by decide +kernel
theorem dw_w655 : lw_tbl[655]? = some ((Jvm.Cond.methodLink "TreasureWalkLaw$Island" (47 : Nat) ({ cls := "[I", name := "clone", desc := "()Ljava/lang/Object;" } : Jvm.MethodName))) := by decide +kernel
theorem dw_w656 : lw_tbl[656]? = some ((Jvm.Cond.sameMethod "[I" "java/lang/Object" "clone" "()Ljava/lang/Object;")) := by decide +kernel
theorem dw_w657 : lw_tbl[657]? = some ((Jvm.Cond.selects "[I" ({ cls := "[I", name := "clone", desc := "()Ljava/lang/Object;" } : Jvm.MethodName) ({ cls := "java/lang/Object", name := "clone", desc := "()Ljava/lang/Object;" } : Jvm.MethodName))) := by decide +kernel
theorem dw_w667 : lw_tbl[667]? = some ((Jvm.Cond.fieldLink "TreasureWalkLaw$Island" (49 : Nat) "TreasureWalkLaw$Clue" "starts" "[I")) := by decide +kernel
theorem dw_w670 : lw_tbl[670]? = some ((Jvm.Cond.fieldLink "TreasureWalkLaw$Island" (52 : Nat) "TreasureWalkLaw$Clue" "legs" "[LTreasureWalkLaw$Leg;")) := by decide +kernel
theorem dw_w673 : lw_tbl[673]? = some ((Jvm.Cond.fieldLink "TreasureWalkLaw$Island" (56 : Nat) "TreasureWalkLaw$Clue" "isUsed" "Z")) := by decide +kernel
theorem dw_w683 : lw_tbl[683]? = some ((Jvm.Cond.instanceMethod ({ cls := "TreasureWalkLaw$Island", name := "left", desc := "()[Z" } : Jvm.MethodName))) := by decide +kernel
theorem dw_w684 : lw_tbl[684]? = some ((Jvm.Cond.selects "TreasureWalkLaw$Island" ({ cls := "TreasureWalkLaw$Island", name := "left", desc := "()[Z" } : Jvm.MethodName) ({ cls := "TreasureWalkLaw$Island", name := "left", desc := "()[Z" } : Jvm.MethodName))) := by decide +kernel
theorem dw_w685 : lw_tbl[685]? = some ((Jvm.Cond.code ({ cls := "TreasureWalkLaw$Island", name := "left", desc := "()[Z" } : Jvm.MethodName) prog_15_method_9_code (4 : Nat) (Option.some (Jvm.ClassFile.FieldType.array Jvm.ClassFile.FieldType.boolean)))) := by decide +kernel
theorem dw_w686 : lw_tbl[686]? = some ((Jvm.Cond.methodLink "TreasureWalkLaw$Island" (117 : Nat) ({ cls := "TreasureWalkLaw$Island", name := "reasons", desc := "()[I" } : Jvm.MethodName))) := by decide +kernel
theorem dw_w687 : lw_tbl[687]? = some ((Jvm.Cond.instanceMethod ({ cls := "TreasureWalkLaw$Island", name := "reasons", desc := "()[I" } : Jvm.MethodName))) := by decide +kernel
theorem dw_w688 : lw_tbl[688]? = some ((Jvm.Cond.selects "TreasureWalkLaw$Island" ({ cls := "TreasureWalkLaw$Island", name := "reasons", desc := "()[I" } : Jvm.MethodName) ({ cls := "TreasureWalkLaw$Island", name := "reasons", desc := "()[I" } : Jvm.MethodName))) := by decide +kernel
theorem dw_w689 : lw_tbl[689]? = some ((Jvm.Cond.code ({ cls := "TreasureWalkLaw$Island", name := "reasons", desc := "()[I" } : Jvm.MethodName) prog_15_method_8_code (4 : Nat) (Option.some (Jvm.ClassFile.FieldType.array Jvm.ClassFile.FieldType.int)))) := by decide +kernel
theorem dw_w690 : lw_tbl[690]? = some ((Jvm.Cond.methodLink "TreasureWalkLaw$Island" (113 : Nat) ({ cls := "TreasureWalkLaw$Island", name := "walks", desc := "(III)I" } : Jvm.MethodName))) := by decide +kernel
theorem dw_w691 : lw_tbl[691]? = some ((Jvm.Cond.instanceMethod ({ cls := "TreasureWalkLaw$Island", name := "walks", desc := "(III)I" } : Jvm.MethodName))) := by decide +kernel
theorem dw_w692 : lw_tbl[692]? = some ((Jvm.Cond.selects "TreasureWalkLaw$Island" ({ cls := "TreasureWalkLaw$Island", name := "walks", desc := "(III)I" } : Jvm.MethodName) ({ cls := "TreasureWalkLaw$Island", name := "walks", desc := "(III)I" } : Jvm.MethodName))) := by decide +kernel
theorem dw_w693 : lw_tbl[693]? = some ((Jvm.Cond.code ({ cls := "TreasureWalkLaw$Island", name := "walks", desc := "(III)I" } : Jvm.MethodName) prog_15_method_7_code (10 : Nat) (Option.some Jvm.ClassFile.FieldType.int))) := by decide +kernel
theorem dw_w694 : lw_tbl[694]? = some ((Jvm.Cond.methodLink "TreasureWalkLaw$Island" (109 : Nat) ({ cls := "TreasureWalkLaw$Island", name := "tries", desc := "(LTreasureWalkLaw$Clue;III)V" } : Jvm.MethodName))) := by decide +kernel
theorem dw_w696 : lw_tbl[696]? = some ((Jvm.Cond.instanceMethod ({ cls := "TreasureWalkLaw$Island", name := "tries", desc := "(LTreasureWalkLaw$Clue;III)V" } : Jvm.MethodName))) := by decide +kernel
theorem dw_w697 : lw_tbl[697]? = some ((Jvm.Cond.code ({ cls := "TreasureWalkLaw$Island", name := "tries", desc := "(LTreasureWalkLaw$Clue;III)V" } : Jvm.MethodName) prog_15_method_6_code (9 : Nat) (Option.none : Option Jvm.ClassFile.FieldType))) := by decide +kernel
theorem dw_w698 : lw_tbl[698]? = some ((Jvm.Cond.methodLink "TreasureWalkLaw$Island" (102 : Nat) ({ cls := "java/lang/Math", name := "max", desc := "(II)I" } : Jvm.MethodName))) := by decide +kernel
theorem dw_w701 : lw_tbl[701]? = some ((Jvm.Cond.methodLink "TreasureWalkLaw$Island" (105 : Nat) ({ cls := "TreasureWalkLaw$Island", name := "behind", desc := "(LTreasureWalkLaw$Leg;II)I" } : Jvm.MethodName))) := by decide +kernel
theorem dw_w728 : lw_tbl[728]? = some ((Jvm.Cond.instanceMethod ({ cls := "TreasureWalkLaw$Island", name := "hides", desc := "(I)I" } : Jvm.MethodName))) := by decide +kernel
theorem dw_w729 : lw_tbl[729]? = some ((Jvm.Cond.selects "TreasureWalkLaw$Island" ({ cls := "TreasureWalkLaw$Island", name := "hides", desc := "(I)I" } : Jvm.MethodName) ({ cls := "TreasureWalkLaw$Island", name := "hides", desc := "(I)I" } : Jvm.MethodName))) := by decide +kernel
theorem dw_w730 : lw_tbl[730]? = some ((Jvm.Cond.code ({ cls := "TreasureWalkLaw$Island", name := "hides", desc := "(I)I" } : Jvm.MethodName) prog_15_method_16_code (7 : Nat) (Option.some Jvm.ClassFile.FieldType.int))) := by decide +kernel
theorem dw_w731 : lw_tbl[731]? = some ((Jvm.Cond.methodLink "TreasureWalkLaw$Island" (128 : Nat) ({ cls := "TreasureWalkLaw$Island", name := "left", desc := "()[Z" } : Jvm.MethodName))) := by decide +kernel
theorem dw_w732 : lw_tbl[732]? = some ((Jvm.Cond.methodLink "TreasureWalkLaw$Island" (125 : Nat) ({ cls := "TreasureWalkLaw$Island", name := "many", desc := "([Z)I" } : Jvm.MethodName))) := by decide +kernel
theorem dw_w1582 : lw_tbl[1582]? = some ((Jvm.Cond.instanceMethod ({ cls := "TreasureWalkLaw$Island", name := "checksum", desc := "()J" } : Jvm.MethodName))) := by decide +kernel
theorem dw_w1583 : lw_tbl[1583]? = some ((Jvm.Cond.selects "TreasureWalkLaw$Island" ({ cls := "TreasureWalkLaw$Island", name := "checksum", desc := "()J" } : Jvm.MethodName) ({ cls := "TreasureWalkLaw$Island", name := "checksum", desc := "()J" } : Jvm.MethodName))) := by decide +kernel
theorem dw_w1584 : lw_tbl[1584]? = some ((Jvm.Cond.code ({ cls := "TreasureWalkLaw$Island", name := "checksum", desc := "()J" } : Jvm.MethodName) prog_15_method_17_code (6 : Nat) (Option.some Jvm.ClassFile.FieldType.long))) := by decide +kernel
theorem dw_w1585 : lw_tbl[1585]? = some ((Jvm.Cond.constantLong "TreasureWalkLaw$Island" (135 : Nat) (31 : Int64))) := by decide +kernel
theorem dw_w1586 : lw_tbl[1586]? = some ((Jvm.Cond.methodLink "TreasureWalkLaw$Island" (137 : Nat) ({ cls := "TreasureWalkLaw$Island", name := "told", desc := "(I)I" } : Jvm.MethodName))) := by decide +kernel
theorem dw_w1587 : lw_tbl[1587]? = some ((Jvm.Cond.instanceMethod ({ cls := "TreasureWalkLaw$Island", name := "told", desc := "(I)I" } : Jvm.MethodName))) := by decide +kernel
theorem dw_w1588 : lw_tbl[1588]? = some ((Jvm.Cond.selects "TreasureWalkLaw$Island" ({ cls := "TreasureWalkLaw$Island", name := "told", desc := "(I)I" } : Jvm.MethodName) ({ cls := "TreasureWalkLaw$Island", name := "told", desc := "(I)I" } : Jvm.MethodName))) := by decide +kernel
theorem dw_w1589 : lw_tbl[1589]? = some ((Jvm.Cond.code ({ cls := "TreasureWalkLaw$Island", name := "told", desc := "(I)I" } : Jvm.MethodName) prog_15_method_14_code (7 : Nat) (Option.some Jvm.ClassFile.FieldType.int))) := by decide +kernel
theorem dw_w1590 : lw_tbl[1590]? = some ((Jvm.Cond.methodLink "TreasureWalkLaw$Island" (132 : Nat) ({ cls := "TreasureWalkLaw$Island", name := "parts", desc := "([Z)I" } : Jvm.MethodName))) := by decide +kernel
theorem dw_w1591 : lw_tbl[1591]? = some ((Jvm.Cond.instanceMethod ({ cls := "TreasureWalkLaw$Island", name := "parts", desc := "([Z)I" } : Jvm.MethodName))) := by decide +kernel
theorem dw_w1592 : lw_tbl[1592]? = some ((Jvm.Cond.selects "TreasureWalkLaw$Island" ({ cls := "TreasureWalkLaw$Island", name := "parts", desc := "([Z)I" } : Jvm.MethodName) ({ cls := "TreasureWalkLaw$Island", name := "parts", desc := "([Z)I" } : Jvm.MethodName))) := by decide +kernel
theorem dw_w1593 : lw_tbl[1593]? = some ((Jvm.Cond.code ({ cls := "TreasureWalkLaw$Island", name := "parts", desc := "([Z)I" } : Jvm.MethodName) prog_15_method_13_code (7 : Nat) (Option.some Jvm.ClassFile.FieldType.int))) := by decide +kernel
theorem dw_w1594 : lw_tbl[1594]? = some ((Jvm.Cond.methodLink "TreasureWalkLaw$Island" (121 : Nat) ({ cls := "TreasureWalkLaw$Island", name := "far", desc := "(I[Z)[I" } : Jvm.MethodName))) := by decide +kernel
def dw_P_X13_tries : Nat → Nat → Nat → Nat → Nat → Int32 → Int32 → Int32 → dw_S → (Nat × dw_S → Prop) → Prop
  | 0, _, _, _, _, _, _, _, _, _ => False
  | f + 1, n, m, th, r0, x1, x2, x3, Y, Q => (
  if ¬ x1 = x3 then (pw_ck (dw_is Y r0 12) (
pw_nn (dw_r Y r0 1) (fun (r1 : Nat) =>
pw_ck (dw_is Y r1 23 ∧ tw_ok x1 (dw_l Y r1) = true) (
pw_nn (dw_r Y r1 (Int32.toNatClampNeg x1)) (fun (r2 : Nat) =>
pw_ck (dw_is Y r2 14) (
tw_jn (fun (a3 : Int32) =>
pw_lt a3 (fun (v5 : Int32) =>
pw_ck (dw_is Y r2 14) (
tw_jn (fun (a6 : Int32) =>
pw_lt a6 (fun (v8 : Int32) =>
pw_lp (fun (k10 : (Int32 × dw_S × Nat × Nat) → Prop) (a9 : Int32 × dw_S × Nat × Nat) =>
if v5 < a9.1 then (pw_ck (a9.2.2.1 ≤ m ∧ a9.2.2.2 ≤ (dw_sl (f + 1))) (Q (a9.2.2.1, a9.2.1)))
else (pw_ck (dw_is a9.2.1 th 13 ∧ a9.2.2.1 ≤ m ∧ a9.2.2.2 ≤ (dw_sl (f + 1))) (
dw_P_X13_behind n th r2 x2 a9.1 a9.2.1 (fun (r11 : Int32) =>
pw_lt r11 (fun (v12 : Int32) =>
tw_jn (fun (a13 : dw_S × Nat × Nat) =>
pw_lt (a9.1 + (1 : Int32)) (fun (v15 : Int32) =>
k10 (v15, a13.1, a13.2.1, a13.2.2))) (fun (j14 : (dw_S × Nat × Nat) → Prop) =>
if 0 ≤ v12 then (pw_ck (dw_is a9.2.1 th 13) (
pw_nn (dw_r a9.2.1 th 12) (fun (r16 : Nat) =>
pw_ck (dw_is a9.2.1 r16 20 ∧ tw_ok (x1 + (1 : Int32)) (dw_l a9.2.1 r16) = true) (pw_lt (dw_pi a9.2.1 r16 (Int32.toNatClampNeg (x1 + (1 : Int32))) a9.1) (fun (Y17 : dw_S) =>
pw_ck (dw_is Y17 th 13 ∧ a9.2.2.1 + (m - a9.2.2.1) ≤ m ∧ a9.2.2.2 + dw_sl f ≤ (dw_sl (f + 1))) (dw_P_X13_tries f n (m - a9.2.2.1) th r0 (x1 + (1 : Int32)) v12 x3 Y17 (fun (r18 : Nat × dw_S) =>
pw_ck (dw_is r18.2 r2 14) (
if (dw_i r18.2 r2 0) ≤ 0 then (j14 (r18.2, (a9.2.2.1 + r18.1), (a9.2.2.2 + dw_sl f)))
else (pw_ck ((a9.2.2.1 + r18.1) ≤ m ∧ (a9.2.2.2 + dw_sl f) ≤ (dw_sl (f + 1))) (Q ((a9.2.2.1 + r18.1), r18.2)))))))))))
else (j14 (a9.2.1, a9.2.2.1, a9.2.2.2)))))))) n (v8, Y, 0, 0))) (fun (j7 : (Int32) → Prop) =>
if ¬ (dw_i Y r2 0) = 0 then (j7 (0 : Int32))
else (pw_ck (dw_is Y r2 14) (
pw_ck (dw_is Y r2 14) (
j7 (if (0 : Int32) < ((dw_i Y r2 1) - (dw_i Y r2 2)) then ((dw_i Y r2 1) - (dw_i Y r2 2)) else (0 : Int32))))))))) (fun (j4 : (Int32) → Prop) =>
if ¬ (dw_i Y r2 0) = 0 then (pw_ck (dw_is Y r2 14) (
if ¬ (dw_i Y r2 0) = (1 : Int32) then (j4 (59 : Int32))
else (j4 (60 : Int32))))
else (pw_ck (dw_is Y r2 14) (
pw_ck (dw_is Y r2 14) (
j4 ((dw_i Y r2 1) + (dw_i Y r2 2))))))))))))
else (pw_ck (dw_is Y th 13) (
pw_nn (dw_r Y th 11) (fun (r19 : Nat) =>
pw_ck (dw_is Y r19 26 ∧ tw_ok x2 (dw_l Y r19) = true) (
tw_jn (fun (a20 : dw_S × Nat × Nat) =>
pw_ck (a20.2.1 ≤ m ∧ a20.2.2 ≤ (dw_sl (f + 1))) (Q (a20.2.1, a20.1))) (fun (j21 : (dw_S × Nat × Nat) → Prop) =>
pw_mt (dw_r Y r19 (Int32.toNatClampNeg x2)) (pw_ck (dw_is Y th 13) (
pw_nn (dw_r Y th 11) (fun (r23 : Nat) =>
pw_ck (dw_is Y th 13) (
pw_nn (dw_r Y th 12) (fun (r24 : Nat) =>
pw_ck ((dw_is Y r24 20 ∧ ∀ i, i < (dw_l Y r24) → fits .int (.int (dw_i Y r24 i)) = true) ∧ 1 ≤ m ∧ (0 + (dw_l Y r24)) ≤ (dw_sl (f + 1))) (pw_al (dw_n Y) (fun (q25 : Nat) => pw_lt (dw_nw Y q25 20 (dw_l Y r24) (dw_i Y r24) (fun _ => none)) (fun (Y26 : dw_S) =>
pw_ck (dw_is Y26 q25 20) (
pw_ck (dw_is Y26 r23 26 ∧ tw_ok x2 (dw_l Y26 r23) = true ∧ dw_is Y26 q25 20) (pw_lt (dw_pr Y26 r23 (Int32.toNatClampNeg x2) (some q25)) (fun (Y27 : dw_S) =>
j21 (Y27, 1, (0 + (dw_l Y r24)))))))))))))) (fun (r22 : Nat) =>
j21 (Y, 0, 0))))))))
theorem dw_y_X13_tries : tw_My yX13_tries cX13_tries 9 none 4 := ⟨List.mem_of_getElem? dw_w697, List.mem_of_getElem? dw_w50, by decide +kernel, by decide +kernel, by decide +kernel⟩
theorem dw_v_X13_tries : dw_Mv yX13_tries "TreasureWalkLaw$Island" := ⟨List.mem_of_getElem? dw_w696, List.mem_of_getElem? dw_w6⟩
set_option maxRecDepth 100000 in
set_option maxHeartbeats 4000000 in
theorem dw_m_X13_tries {l : Launch} {b : Nat} {D : tw_G} {C : Nat → ClassId} {S : Nat → Nat} (hD : D.2 = []) {n : Nat} : ∀ (f : Nat) (m : Nat) (th : Nat) (r0 : Nat) (x1 : Int32) (x2 : Int32) (x3 : Int32) (Y : dw_S) (Q : Nat × dw_S → Prop), dw_P_X13_tries f n m th r0 x1 x2 x3 Y Q → dw_MetX l b D C S yX13_tries cX13_tries 9 none ({ frames := 3 + f, cells := m, slots := dw_sl f, locals := 78 + 28 * f } : Room) [.ref (b + th), .ref (b + r0), .int x1, .int x2, .int x3] Y (fun r => r.1) (fun _ => none) (fun r => r.2) Q := by
  intro f
  induction f with
  | zero => intro m th r0 x1 x2 x3 Y Q h; exact h.elim
  | succ f ih =>
    intro m th r0 x1 x2 x3 Y Q h
    refine dw_metOfX (dw_P_X13_tries (f + 1) n m th r0 x1 x2 x3 Y Q) h _ _ _ Q (by decide +kernel) (Nat.le_of_ble_eq_true rfl) ?_
    intro z el eB eD eC eS eR X hA hnm hret hQ
    subst el eD eC eS
    have hb : tw_zB z ≤ b := Nat.le_of_eq eB
    have hA : dw_AK (tw_zB z) (tw_zS z) (tw_zs z) := by rw [eB]; exact hA
    have hfr : (tw_zR z).frames = 3 + (f + 1) := by rw [eR]
    have hlo : (tw_zR z).locals = 78 + 28 * (f + 1) := by rw [eR]
    have eMC : (tw_zR z).cells = m := by rw [eR]
    have eMS : (tw_zR z).slots = dw_sl (f + 1) := by rw [eR]
    have X : tw_X z cX13_tries "TreasureWalkLaw$Island" 9 := X
    show dw_Rf (tw_cz z 0 0) b _ Y 0 [(0, .ref (b + th)), (1, .ref (b + r0)), (2, .int x1), (3, .int x2), (4, .int x3)] []
    rw [dw_P_X13_tries]
    refine e_iload_n (z := tw_cz z 0 0) X dX13_tries_0 rfl 2 rfl ?_
    refine e_iload (z := tw_cz z 0 0) X dX13_tries_1 4 rfl ?_
    refine e_icmp_ne (z := tw_cz z 0 0) X dX13_tries_3 (tgt := 32) (by decide) ?_ ?_
    ·
      refine e_aload_n (z := tw_cz z 0 0) X dX13_tries_32 rfl 1 rfl ?_
      refine e_getf (ci := 12) (T := TX12) (f := 1) (k := r0) (z := tw_cz z 0 0) X dX13_tries_33 (Or.inl ⟨_, dw_w670⟩) dw_in12 rfl (by decide) (by decide) (fun h => dw_E12 h) rfl ?_
      refine e_nn (r := (dw_r Y r0 1)) (LL := fun _ => [(0, .ref (b + th)), (1, .ref (b + r0)), (2, .int x1), (3, .int x2), (4, .int x3)]) (SS := fun q => dw_v b q :: []) (fun r1 => ?_)
      show dw_Rf (tw_cz z 0 0) b _ Y _ [(0, .ref (b + th)), (1, .ref (b + r0)), (2, .int x1), (3, .int x2), (4, .int x3)] [.ref (b + r1)]
      refine e_iload_n (z := tw_cz z 0 0) X dX13_tries_36 rfl 2 rfl ?_
      refine e_aald (k := r1) (kd := 23) (a := 6) (ty := .object "TreasureWalkLaw$Leg") (z := tw_cz z 0 0) X dX13_tries_37 (by decide) (fun h => dw_E23 h) rfl rfl ?_
      refine e_nn (r := (dw_r Y r1 (Int32.toNatClampNeg x1))) (LL := fun _ => [(0, .ref (b + th)), (1, .ref (b + r0)), (2, .int x1), (3, .int x2), (4, .int x3)]) (SS := fun q => dw_v b q :: []) (fun r2 => ?_)
      show dw_Rf (tw_cz z 0 0) b _ Y _ [(0, .ref (b + th)), (1, .ref (b + r0)), (2, .int x1), (3, .int x2), (4, .int x3)] [.ref (b + r2)]
      refine e_astore (z := tw_cz z 0 0) X dX13_tries_38 (by decide) (L' := [(5, .ref (b + r2)), (0, .ref (b + th)), (1, .ref (b + r0)), (2, .int x1), (3, .int x2), (4, .int x3)]) rfl ?_
      refine e_aload (z := tw_cz z 0 0) X dX13_tries_40 0 rfl ?_
      refine e_getf (ci := 14) (T := TX14) (f := 0) (k := r2) (z := tw_cz z 0 0) X dX13_tries_42 (Or.inl ⟨_, dw_w1516⟩) dw_in14 rfl (by decide) (by decide) (fun h => dw_E14 h) rfl ?_
      refine e_jn (α := Int32) (zJ := fun a3 => tw_cz z 0 0) (YJ := fun a3 => Y) (pcJ := 78) (LJ := fun a3 => [(5, .ref (b + r2)), (0, .ref (b + th)), (1, .ref (b + r0)), (2, .int x1), (3, .int x2), (4, .int x3)]) (stJ := fun a3 => [.int a3]) (fun a3 => ?_) (fun j4 hj4 => ?_)
      ·
        refine e_istore (z := tw_cz z 0 0) X dX13_tries_78 (by decide) (LL := fun v5 => [(6, .int v5), (5, .ref (b + r2)), (0, .ref (b + th)), (1, .ref (b + r0)), (2, .int x1), (3, .int x2), (4, .int x3)]) (fun _ => rfl) (fun v5 => ?_)
        refine e_aload (z := tw_cz z 0 0) X dX13_tries_80 1 rfl ?_
        refine e_getf (ci := 14) (T := TX14) (f := 0) (k := r2) (z := tw_cz z 0 0) X dX13_tries_82 (Or.inl ⟨_, dw_w1516⟩) dw_in14 rfl (by decide) (by decide) (fun h => dw_E14 h) rfl ?_
        refine e_jn (α := Int32) (zJ := fun a6 => tw_cz z 0 0) (YJ := fun a6 => Y) (pcJ := 107) (LJ := fun a6 => [(6, .int v5), (5, .ref (b + r2)), (0, .ref (b + th)), (1, .ref (b + r0)), (2, .int x1), (3, .int x2), (4, .int x3)]) (stJ := fun a6 => [.int a6]) (fun a6 => ?_) (fun j7 hj7 => ?_)
        ·
          refine e_istore (z := tw_cz z 0 0) X dX13_tries_107 (by decide) (LL := fun v8 => [(7, .int v8), (6, .int v5), (5, .ref (b + r2)), (0, .ref (b + th)), (1, .ref (b + r0)), (2, .int x1), (3, .int x2), (4, .int x3)]) (fun _ => rfl) (fun v8 => ?_)
          refine e_lp (α := Int32 × dw_S × Nat × Nat) (zJ := fun a9 => tw_cz z a9.2.2.1 a9.2.2.2) (YJ := fun a9 => a9.2.1) (pcJ := 109) (LJ := fun a9 => [(7, .int a9.1), (6, .int v5), (5, .ref (b + r2)), (0, .ref (b + th)), (1, .ref (b + r0)), (2, .int x1), (3, .int x2), (4, .int x3)]) (stJ := fun a9 => []) (fun k10 hk10 a9 => ?_) n (v8, Y, 0, 0)
          refine e_iload (z := tw_cz z a9.2.2.1 a9.2.2.2) X dX13_tries_109 0 rfl ?_
          refine e_iload (z := tw_cz z a9.2.2.1 a9.2.2.2) X dX13_tries_111 1 rfl ?_
          refine e_icmp_gt (z := tw_cz z a9.2.2.1 a9.2.2.2) X dX13_tries_113 (tgt := 172) (by decide) ?_ ?_
          ·
            exact e_vretX (z := z) X eB dX13_tries_172 hret ⟨eMC, eMS⟩ hQ rfl rfl rfl
          ·
            refine e_aload_n (z := tw_cz z a9.2.2.1 a9.2.2.2) X dX13_tries_116 rfl 3 rfl ?_
            refine e_aload (z := tw_cz z a9.2.2.1 a9.2.2.2) X dX13_tries_117 2 rfl ?_
            refine e_iload_n (z := tw_cz z a9.2.2.1 a9.2.2.2) X dX13_tries_119 rfl 6 rfl ?_
            refine e_iload (z := tw_cz z a9.2.2.1 a9.2.2.2) X dX13_tries_120 0 rfl ?_
            refine e_callV (k := th) (ci := 13) (Cn := "TreasureWalkLaw$Island") (T := TX13) (N := 13) (c := a9.2.2.1) (s := a9.2.2.2) (As := [.ref (b + r2), .int x2, .int a9.1]) (z := tw_cz z a9.2.2.1 a9.2.2.2) X hA hb hD ⟨rfl, rfl⟩ ⟨eMC, eMS⟩ dX13_tries_122 (fun Q h => dw_m_X13_behind hD h) dw_y_X13_behind dw_v_X13_behind _ dw_w701 (by decide) rfl (fun h => dw_E13 h) rfl ⟨(dw_leq hfr (by first | omega | (dsimp only; omega))), (dw_leq hlo (by first | omega | (dsimp only; omega)))⟩ (Nat.le_of_ble_eq_true rfl) rfl (fun r11 => ?_)
            show dw_Rf (tw_cz z a9.2.2.1 a9.2.2.2) b _ a9.2.1 _ [(7, .int a9.1), (6, .int v5), (5, .ref (b + r2)), (0, .ref (b + th)), (1, .ref (b + r0)), (2, .int x1), (3, .int x2), (4, .int x3)] [.int r11]
            refine e_istore (z := tw_cz z a9.2.2.1 a9.2.2.2) X dX13_tries_125 (by decide) (LL := fun v12 => [(8, .int v12), (7, .int a9.1), (6, .int v5), (5, .ref (b + r2)), (0, .ref (b + th)), (1, .ref (b + r0)), (2, .int x1), (3, .int x2), (4, .int x3)]) (fun _ => rfl) (fun v12 => ?_)
            refine e_iload (z := tw_cz z a9.2.2.1 a9.2.2.2) X dX13_tries_127 0 rfl ?_
            refine e_jn (α := dw_S × Nat × Nat) (zJ := fun a13 => tw_cz z a13.2.1 a13.2.2) (YJ := fun a13 => a13.1) (pcJ := 166) (LJ := fun a13 => [(7, .int a9.1), (6, .int v5), (5, .ref (b + r2)), (0, .ref (b + th)), (1, .ref (b + r0)), (2, .int x1), (3, .int x2), (4, .int x3)]) (stJ := fun a13 => []) (fun a13 => ?_) (fun j14 hj14 => ?_)
            ·
              refine e_iinc (z := tw_cz z a13.2.1 a13.2.2) X dX13_tries_166 0 rfl (v := (1 : Int32)) (by decide) (by decide) (LL := fun v15 => [(7, .int v15), (6, .int v5), (5, .ref (b + r2)), (0, .ref (b + th)), (1, .ref (b + r0)), (2, .int x1), (3, .int x2), (4, .int x3)]) (fun _ => rfl) (fun v15 => ?_)
              refine e_goto (z := tw_cz z a13.2.1 a13.2.2) X dX13_tries_169 (tgt := 109) (by decide) ?_
              exact hk10 (v15, a13.1, a13.2.1, a13.2.2)
            refine e_if_ge (z := tw_cz z a9.2.2.1 a9.2.2.2) X dX13_tries_129 (tgt := 135) (by decide) ?_ ?_
            ·
              refine e_aload_n (z := tw_cz z a9.2.2.1 a9.2.2.2) X dX13_tries_135 rfl 4 rfl ?_
              refine e_getf (ci := 13) (T := TX13) (f := 12) (k := th) (z := tw_cz z a9.2.2.1 a9.2.2.2) X dX13_tries_136 (Or.inl ⟨_, dw_w613⟩) dw_in13 rfl (by decide) (by decide) (fun h => dw_E13 h) rfl ?_
              refine e_nn (r := (dw_r a9.2.1 th 12)) (LL := fun _ => [(8, .int v12), (7, .int a9.1), (6, .int v5), (5, .ref (b + r2)), (0, .ref (b + th)), (1, .ref (b + r0)), (2, .int x1), (3, .int x2), (4, .int x3)]) (SS := fun q => dw_v b q :: []) (fun r16 => ?_)
              show dw_Rf (tw_cz z a9.2.2.1 a9.2.2.2) b _ a9.2.1 _ [(8, .int v12), (7, .int a9.1), (6, .int v5), (5, .ref (b + r2)), (0, .ref (b + th)), (1, .ref (b + r0)), (2, .int x1), (3, .int x2), (4, .int x3)] [.ref (b + r16)]
              refine e_iload_n (z := tw_cz z a9.2.2.1 a9.2.2.2) X dX13_tries_139 rfl 6 rfl ?_
              refine e_iconst (z := tw_cz z a9.2.2.1 a9.2.2.2) X dX13_tries_140 (v := (1 : Int32)) (by decide) ?_
              refine e_iadd (z := tw_cz z a9.2.2.1 a9.2.2.2) X dX13_tries_141 ?_
              refine e_iload (z := tw_cz z a9.2.2.1 a9.2.2.2) X dX13_tries_142 1 rfl ?_
              refine e_iast (k := r16) (z := tw_cz z a9.2.2.1 a9.2.2.2) X hb dX13_tries_144 (fun Y17 => ?_)
              refine e_aload_n (z := tw_cz z a9.2.2.1 a9.2.2.2) X dX13_tries_145 rfl 4 rfl ?_
              refine e_aload_n (z := tw_cz z a9.2.2.1 a9.2.2.2) X dX13_tries_146 rfl 5 rfl ?_
              refine e_iload_n (z := tw_cz z a9.2.2.1 a9.2.2.2) X dX13_tries_147 rfl 6 rfl ?_
              refine e_iconst (z := tw_cz z a9.2.2.1 a9.2.2.2) X dX13_tries_148 (v := (1 : Int32)) (by decide) ?_
              refine e_iadd (z := tw_cz z a9.2.2.1 a9.2.2.2) X dX13_tries_149 ?_
              refine e_iload (z := tw_cz z a9.2.2.1 a9.2.2.2) X dX13_tries_150 0 rfl ?_
              refine e_iload (z := tw_cz z a9.2.2.1 a9.2.2.2) X dX13_tries_152 8 rfl ?_
              refine e_callVX (k := th) (ci := 13) (Cn := "TreasureWalkLaw$Island") (T := TX13) (N := 13) (c := a9.2.2.1) (s := a9.2.2.2) (As := [.ref (b + r0), .int (x1 + (1 : Int32)), .int v12, .int x3]) (st := []) (z := tw_cz z a9.2.2.1 a9.2.2.2) X hA hb hD ⟨rfl, rfl⟩ ⟨eMC, eMS⟩ dX13_tries_154 (fun Q h => ih _ _ _ _ _ _ _ _ h) dw_y_X13_tries dw_v_X13_tries _ dw_w694 (by decide) rfl (fun h => dw_E13 h) rfl ⟨(dw_leq hfr (by first | omega | (dsimp only; omega))), (dw_leq hlo (by first | omega | (dsimp only; omega)))⟩ (Nat.le_of_ble_eq_true rfl) rfl (fun r18 => ?_)
              show dw_Rf (tw_cz z (a9.2.2.1 + r18.1) (a9.2.2.2 + dw_sl f)) b _ r18.2 _ [(8, .int v12), (7, .int a9.1), (6, .int v5), (5, .ref (b + r2)), (0, .ref (b + th)), (1, .ref (b + r0)), (2, .int x1), (3, .int x2), (4, .int x3)] []
              refine e_aload (z := tw_cz z (a9.2.2.1 + r18.1) (a9.2.2.2 + dw_sl f)) X dX13_tries_157 3 rfl ?_
              refine e_getf (ci := 14) (T := TX14) (f := 0) (k := r2) (z := tw_cz z (a9.2.2.1 + r18.1) (a9.2.2.2 + dw_sl f)) X dX13_tries_159 (Or.inl ⟨_, dw_w1516⟩) dw_in14 rfl (by decide) (by decide) (fun h => dw_E14 h) rfl ?_
              refine e_if_le (z := tw_cz z (a9.2.2.1 + r18.1) (a9.2.2.2 + dw_sl f)) X dX13_tries_162 (tgt := 166) (by decide) ?_ ?_
              ·
                exact dw_Rf.sub [1, 2, 3, 4, 5, 6, 7, 8] rfl (hj14 (r18.2, (a9.2.2.1 + r18.1), (a9.2.2.2 + dw_sl f)))
              ·
                exact e_vretX (z := z) X eB dX13_tries_165 hret ⟨eMC, eMS⟩ hQ rfl rfl rfl
            ·
              refine e_goto (z := tw_cz z a9.2.2.1 a9.2.2.2) X dX13_tries_132 (tgt := 166) (by decide) ?_
              exact dw_Rf.sub [1, 2, 3, 4, 5, 6, 7, 8] rfl (hj14 (a9.2.1, a9.2.2.1, a9.2.2.2))
        refine e_if_ne (z := tw_cz z 0 0) X dX13_tries_85 (tgt := 106) (by decide) ?_ ?_
        ·
          refine e_iconst (z := tw_cz z 0 0) X dX13_tries_106 (v := (0 : Int32)) (by decide) ?_
          exact hj7 (0 : Int32)
        ·
          refine e_iconst (z := tw_cz z 0 0) X dX13_tries_88 (v := (0 : Int32)) (by decide) ?_
          refine e_aload (z := tw_cz z 0 0) X dX13_tries_89 1 rfl ?_
          refine e_getf (ci := 14) (T := TX14) (f := 1) (k := r2) (z := tw_cz z 0 0) X dX13_tries_91 (Or.inl ⟨_, dw_w1518⟩) dw_in14 rfl (by decide) (by decide) (fun h => dw_E14 h) rfl ?_
          refine e_aload (z := tw_cz z 0 0) X dX13_tries_94 1 rfl ?_
          refine e_getf (ci := 14) (T := TX14) (f := 2) (k := r2) (z := tw_cz z 0 0) X dX13_tries_96 (Or.inl ⟨_, dw_w1520⟩) dw_in14 rfl (by decide) (by decide) (fun h => dw_E14 h) rfl ?_
          refine e_isub (z := tw_cz z 0 0) X dX13_tries_99 ?_
          refine e_mmax (z := tw_cz z 0 0) X ⟨Nat.zero_le _, Nat.zero_le _⟩ dX13_tries_100 _ dw_w698 ((dw_leq hfr (by first | omega | (dsimp only; omega)))) ((dw_leq hlo (by first | omega | (dsimp only; omega)))) (Nat.le_of_ble_eq_true rfl) ?_
          refine e_goto (z := tw_cz z 0 0) X dX13_tries_103 (tgt := 107) (by decide) ?_
          exact hj7 (if (0 : Int32) < ((dw_i Y r2 1) - (dw_i Y r2 2)) then ((dw_i Y r2 1) - (dw_i Y r2 2)) else (0 : Int32))
      refine e_if_ne (z := tw_cz z 0 0) X dX13_tries_45 (tgt := 62) (by decide) ?_ ?_
      ·
        refine e_aload (z := tw_cz z 0 0) X dX13_tries_62 0 rfl ?_
        refine e_getf (ci := 14) (T := TX14) (f := 0) (k := r2) (z := tw_cz z 0 0) X dX13_tries_64 (Or.inl ⟨_, dw_w1516⟩) dw_in14 rfl (by decide) (by decide) (fun h => dw_E14 h) rfl ?_
        refine e_iconst (z := tw_cz z 0 0) X dX13_tries_67 (v := (1 : Int32)) (by decide) ?_
        refine e_icmp_ne (z := tw_cz z 0 0) X dX13_tries_68 (tgt := 76) (by decide) ?_ ?_
        ·
          refine e_bipush (z := tw_cz z 0 0) X dX13_tries_76 (v := (59 : Int32)) (by decide) ?_
          exact hj4 (59 : Int32)
        ·
          refine e_bipush (z := tw_cz z 0 0) X dX13_tries_71 (v := (60 : Int32)) (by decide) ?_
          refine e_goto (z := tw_cz z 0 0) X dX13_tries_73 (tgt := 78) (by decide) ?_
          exact hj4 (60 : Int32)
      ·
        refine e_aload (z := tw_cz z 0 0) X dX13_tries_48 0 rfl ?_
        refine e_getf (ci := 14) (T := TX14) (f := 1) (k := r2) (z := tw_cz z 0 0) X dX13_tries_50 (Or.inl ⟨_, dw_w1518⟩) dw_in14 rfl (by decide) (by decide) (fun h => dw_E14 h) rfl ?_
        refine e_aload (z := tw_cz z 0 0) X dX13_tries_53 0 rfl ?_
        refine e_getf (ci := 14) (T := TX14) (f := 2) (k := r2) (z := tw_cz z 0 0) X dX13_tries_55 (Or.inl ⟨_, dw_w1520⟩) dw_in14 rfl (by decide) (by decide) (fun h => dw_E14 h) rfl ?_
        refine e_iadd (z := tw_cz z 0 0) X dX13_tries_58 ?_
        refine e_goto (z := tw_cz z 0 0) X dX13_tries_59 (tgt := 78) (by decide) ?_
        exact hj4 ((dw_i Y r2 1) + (dw_i Y r2 2))
    ·
      refine e_aload_n (z := tw_cz z 0 0) X dX13_tries_6 rfl 0 rfl ?_
      refine e_getf (ci := 13) (T := TX13) (f := 11) (k := th) (z := tw_cz z 0 0) X dX13_tries_7 (Or.inl ⟨_, dw_w612⟩) dw_in13 rfl (by decide) (by decide) (fun h => dw_E13 h) rfl ?_
      refine e_nn (r := (dw_r Y th 11)) (LL := fun _ => [(0, .ref (b + th)), (1, .ref (b + r0)), (2, .int x1), (3, .int x2), (4, .int x3)]) (SS := fun q => dw_v b q :: []) (fun r19 => ?_)
      show dw_Rf (tw_cz z 0 0) b _ Y _ [(0, .ref (b + th)), (1, .ref (b + r0)), (2, .int x1), (3, .int x2), (4, .int x3)] [.ref (b + r19)]
      refine e_iload_n (z := tw_cz z 0 0) X dX13_tries_10 rfl 3 rfl ?_
      refine e_aald (k := r19) (kd := 26) (a := 4) (ty := .array .int) (z := tw_cz z 0 0) X dX13_tries_11 (by decide) (fun h => dw_E26 h) rfl rfl ?_
      refine e_jn (α := dw_S × Nat × Nat) (zJ := fun a20 => tw_cz z a20.2.1 a20.2.2) (YJ := fun a20 => a20.1) (pcJ := 31) (LJ := fun a20 => []) (stJ := fun a20 => []) (fun a20 => ?_) (fun j21 hj21 => ?_)
      ·
        exact e_vretX (z := z) X eB dX13_tries_31 hret ⟨eMC, eMS⟩ hQ rfl rfl rfl
      refine e_ifnonnull (r := (dw_r Y r19 (Int32.toNatClampNeg x2))) (LL := fun q => [(0, .ref (b + th)), (1, .ref (b + r0)), (2, .int x1), (3, .int x2), (4, .int x3)]) (z := tw_cz z 0 0) X dX13_tries_12 (tgt := 31) (by decide) ?_ (fun r22 => ?_)
      ·
        show dw_Rf (tw_cz z 0 0) b _ Y _ [(0, .ref (b + th)), (1, .ref (b + r0)), (2, .int x1), (3, .int x2), (4, .int x3)] []
        refine e_aload_n (z := tw_cz z 0 0) X dX13_tries_15 rfl 0 rfl ?_
        refine e_getf (ci := 13) (T := TX13) (f := 11) (k := th) (z := tw_cz z 0 0) X dX13_tries_16 (Or.inl ⟨_, dw_w612⟩) dw_in13 rfl (by decide) (by decide) (fun h => dw_E13 h) rfl ?_
        refine e_nn (r := (dw_r Y th 11)) (LL := fun _ => [(0, .ref (b + th)), (1, .ref (b + r0)), (2, .int x1), (3, .int x2), (4, .int x3)]) (SS := fun q => dw_v b q :: []) (fun r23 => ?_)
        show dw_Rf (tw_cz z 0 0) b _ Y _ [(0, .ref (b + th)), (1, .ref (b + r0)), (2, .int x1), (3, .int x2), (4, .int x3)] [.ref (b + r23)]
        refine e_iload_n (z := tw_cz z 0 0) X dX13_tries_19 rfl 3 rfl ?_
        refine e_aload_n (z := tw_cz z 0 0) X dX13_tries_20 rfl 0 rfl ?_
        refine e_getf (ci := 13) (T := TX13) (f := 12) (k := th) (z := tw_cz z 0 0) X dX13_tries_21 (Or.inl ⟨_, dw_w613⟩) dw_in13 rfl (by decide) (by decide) (fun h => dw_E13 h) rfl ?_
        refine e_nn (r := (dw_r Y th 12)) (LL := fun _ => [(0, .ref (b + th)), (1, .ref (b + r0)), (2, .int x1), (3, .int x2), (4, .int x3)]) (SS := fun q => dw_v b q :: [.int x2, .ref (b + r23)]) (fun r24 => ?_)
        show dw_Rf (tw_cz z 0 0) b _ Y _ [(0, .ref (b + th)), (1, .ref (b + r0)), (2, .int x1), (3, .int x2), (4, .int x3)] [.ref (b + r24), .int x2, .ref (b + r23)]
        refine e_clone (k := r24) (kd := 20) (a := 0) (ty := .int) (c := 0) (s := 0) (z := tw_cz z 0 0) X ⟨rfl, rfl⟩ ⟨eMC, eMS⟩ dX13_tries_24 _ dw_w655 (List.mem_of_getElem? dw_w656) (List.mem_of_getElem? dw_w650) (List.mem_of_getElem? dw_w651) (List.mem_of_getElem? dw_w657) hA.2.2.2.2.1 (by decide) (fun Y k h => dw_E20 h) rfl (va_nm_int ((X.K.2 0 _ rfl).2)) ((dw_leq hfr (by first | omega | (dsimp only; omega)))) (Nat.le_trans (Nat.le_of_ble_eq_true rfl) (dw_leq hlo (by omega) : 30 ≤ _)) (fun q25 Y26 => ?_)
        show dw_Rf (tw_cz z 1 (0 + (dw_l Y r24))) b _ Y26 _ [(0, .ref (b + th)), (1, .ref (b + r0)), (2, .int x1), (3, .int x2), (4, .int x3)] [.ref (b + q25), .int x2, .ref (b + r23)]
        refine e_castA (kd := 20) (a := 0) (z := tw_cz z 1 (0 + (dw_l Y r24))) X dX13_tries_27 _ dw_w586 (by decide) (fun h => dw_E20 h) (va_nm_int ((X.K.2 0 _ rfl).2)) ?_
        refine e_aastA (k := r23) (z := tw_cz z 1 (0 + (dw_l Y r24))) X hb hA.2.2.1.1 dX13_tries_30 (fun Y27 => ?_)
        exact dw_Rf.sub [] rfl (hj21 (Y27, 1, (0 + (dw_l Y r24))))
      ·
        show dw_Rf (tw_cz z 0 0) b _ Y _ [(0, .ref (b + th)), (1, .ref (b + r0)), (2, .int x1), (3, .int x2), (4, .int x3)] []
        exact dw_Rf.sub [] rfl (hj21 (Y, 0, 0))
def dw_P_X13_walks (n : Nat) (th : Nat) (x0 : Int32) (x1 : Int32) (x2 : Int32) (Y : dw_S) (Q : Int32 × dw_S → Prop) : Prop :=
pw_ck (dw_is Y th 13) (
pw_ck (dw_is Y th 13) (
pw_ck ((¬ ((dw_i Y th 0) * (dw_i Y th 1)) < 0 ∧ (Int32.toNatClampNeg ((dw_i Y th 0) * (dw_i Y th 1))) ≤ 10000) ∧ 1 ≤ 31 ∧ (0 + (Int32.toNatClampNeg ((dw_i Y th 0) * (dw_i Y th 1)))) ≤ 2838) (
pw_al (dw_n Y) (fun (q1 : Nat) => pw_lt (dw_nw Y q1 26 (Int32.toNatClampNeg ((dw_i Y th 0) * (dw_i Y th 1))) (fun _ => 0) (fun _ => none)) (fun (Y2 : dw_S) =>
pw_ck (dw_is Y2 th 13) (pw_lt (dw_pr Y2 th 11 (some q1)) (fun (Y3 : dw_S) =>
pw_ck (dw_is Y3 th 13) (
pw_nn (dw_r Y3 th 6) (fun (r4 : Nat) =>
pw_ck (dw_is Y3 r4 24 ∧ tw_ok x0 (dw_l Y3 r4) = true) (
pw_nn (dw_r Y3 r4 (Int32.toNatClampNeg x0)) (fun (r5 : Nat) =>
pw_lt (0 : Int32) (fun (v6 : Int32) =>
pw_lp (fun (k8 : (Int32 × dw_S × Nat × Nat) → Prop) (a7 : Int32 × dw_S × Nat × Nat) =>
pw_ck (dw_is a7.2.1 r5 12) (
pw_nn (dw_r a7.2.1 r5 0) (fun (r9 : Nat) =>
pw_ck (dw_is a7.2.1 r9 20) (
if (Int32.ofNat (dw_l a7.2.1 r9)) ≤ a7.1 then (pw_lt (0 : Int32) (fun (v10 : Int32) =>
pw_ck (dw_is a7.2.1 th 13) (
pw_nn (dw_r a7.2.1 th 11) (fun (r11 : Nat) =>
pw_ck (dw_is a7.2.1 r11 26) (
pw_lt (Int32.ofNat (dw_l a7.2.1 r11)) (fun (v12 : Int32) =>
pw_lt (0 : Int32) (fun (v13 : Int32) =>
pw_lp (fun (k15 : (Int32 × Int32 × dw_S × Nat × Nat) → Prop) (a14 : Int32 × Int32 × dw_S × Nat × Nat) =>
if v12 ≤ a14.2.1 then (pw_ck (a14.2.2.2.1 ≤ 31 ∧ a14.2.2.2.2 ≤ 2838) (Q (a14.1, a14.2.2.1)))
else (pw_ck (dw_is a14.2.2.1 r11 26 ∧ tw_ok a14.2.1 (dw_l a14.2.2.1 r11) = true) (
tw_jn (fun (a16 : Int32) =>
pw_lt (a14.2.1 + (1 : Int32)) (fun (v18 : Int32) =>
k15 (a16, v18, a14.2.2.1, a14.2.2.2.1, a14.2.2.2.2))) (fun (j17 : (Int32) → Prop) =>
pw_mt (dw_r a14.2.2.1 r11 (Int32.toNatClampNeg a14.2.1)) (j17 a14.1) (fun (r19 : Nat) =>
pw_lt (a14.1 + (1 : Int32)) (fun (v20 : Int32) =>
j17 v20)))))) n (v10, v13, a7.2.1, a7.2.2.1, a7.2.2.2))))))))
else (pw_ck (dw_is a7.2.1 th 13) (
pw_nn (dw_r a7.2.1 th 12) (fun (r21 : Nat) =>
pw_ck (dw_is a7.2.1 r21 20 ∧ tw_ok (0 : Int32) (dw_l a7.2.1 r21) = true) (pw_lt (dw_pi a7.2.1 r21 (Int32.toNatClampNeg (0 : Int32)) a7.1) (fun (Y22 : dw_S) =>
tw_jn (fun (a23 : dw_S × Nat × Nat) =>
pw_lt (a7.1 + (1 : Int32)) (fun (v25 : Int32) =>
k8 (v25, a23.1, a23.2.1, a23.2.2))) (fun (j24 : (dw_S × Nat × Nat) → Prop) =>
tw_jn (fun (a26 : Unit) =>
pw_ck (dw_is Y22 th 13) (
pw_nn (dw_r Y22 th 4) (fun (r28 : Nat) =>
pw_ck (dw_is Y22 r5 12) (
pw_nn (dw_r Y22 r5 0) (fun (r29 : Nat) =>
pw_ck (dw_is Y22 r29 20 ∧ tw_ok a7.1 (dw_l Y22 r29) = true) (
pw_ck (dw_is Y22 r28 20 ∧ tw_ok (dw_i Y22 r29 (Int32.toNatClampNeg a7.1)) (dw_l Y22 r28) = true) (
pw_ck (dw_is Y22 th 13 ∧ a7.2.2.1 + (31 - a7.2.2.1) ≤ 31 ∧ a7.2.2.2 + dw_sl 4 ≤ 2838) (dw_P_X13_tries 4 n (31 - a7.2.2.1) th r5 (0 : Int32) (dw_i Y22 r28 (Int32.toNatClampNeg (dw_i Y22 r29 (Int32.toNatClampNeg a7.1)))) x1 Y22 (fun (r30 : Nat × dw_S) =>
j24 (r30.2, (a7.2.2.1 + r30.1), (a7.2.2.2 + dw_sl 4))))))))))) (fun (j27 : (Unit) → Prop) =>
if x2 < 0 then (j27 ())
else (if ¬ a7.1 = x2 then (j24 (Y22, a7.2.2.1, a7.2.2.2))
else (j27 ()))))))))))))) n (v6, Y3, 1, (0 + (Int32.toNatClampNeg ((dw_i Y th 0) * (dw_i Y th 1)))))))))))))))))
theorem dw_y_X13_walks : tw_My yX13_walks cX13_walks 10 (some .int) 3 := ⟨List.mem_of_getElem? dw_w693, List.mem_of_getElem? dw_w50, by decide +kernel, by decide +kernel, by decide +kernel⟩
theorem dw_v_X13_walks : dw_Mv yX13_walks "TreasureWalkLaw$Island" := ⟨List.mem_of_getElem? dw_w691, List.mem_of_getElem? dw_w692⟩
set_option maxRecDepth 100000 in
set_option maxHeartbeats 4000000 in
theorem dw_m_X13_walks {l : Launch} {b : Nat} {D : tw_G} {C : Nat → ClassId} {S : Nat → Nat} (hD : D.2 = []) {n : Nat} {th : Nat} {x0 : Int32} {x1 : Int32} {x2 : Int32} {Y : dw_S} {Q : Int32 × dw_S → Prop}  (h : dw_P_X13_walks n th x0 x1 x2 Y Q) : dw_Met l b D C S yX13_walks cX13_walks 10 (some .int) ({ frames := 8, cells := 31, slots := 2838, locals := 218 } : Room) [.ref (b + th), .int x0, .int x1, .int x2] Y (fun r => some (.int r.1)) (fun r => r.2) Q := by
  refine dw_metOf (dw_P_X13_walks n th x0 x1 x2 Y Q) h _ _ Q (by decide +kernel) (Nat.le_of_ble_eq_true rfl) ?_
  intro z el eB eD eC eS eR X hA hnm hret hQ
  subst el eD eC eS
  have hb : tw_zB z ≤ b := Nat.le_of_eq eB
  have hA : dw_AK (tw_zB z) (tw_zS z) (tw_zs z) := by rw [eB]; exact hA
  have hfr : (tw_zR z).frames = 8 := by rw [eR]
  have hlo : (tw_zR z).locals = 218 := by rw [eR]
  have eMC : (tw_zR z).cells = 31 := by rw [eR]
  have eMS : (tw_zR z).slots = 2838 := by rw [eR]
  have X : tw_X z cX13_walks "TreasureWalkLaw$Island" 10 := X
  show dw_Rf (tw_cz z 0 0) b _ Y 0 [(0, .ref (b + th)), (1, .int x0), (2, .int x1), (3, .int x2)] []
  unfold dw_P_X13_walks
  refine e_aload_n (z := tw_cz z 0 0) X dX13_walks_0 rfl 0 rfl ?_
  refine e_aload_n (z := tw_cz z 0 0) X dX13_walks_1 rfl 0 rfl ?_
  refine e_getf (ci := 13) (T := TX13) (f := 0) (k := th) (z := tw_cz z 0 0) X dX13_walks_2 (Or.inl ⟨_, dw_w590⟩) dw_in13 rfl (by decide) (by decide) (fun h => dw_E13 h) rfl ?_
  refine e_aload_n (z := tw_cz z 0 0) X dX13_walks_5 rfl 0 rfl ?_
  refine e_getf (ci := 13) (T := TX13) (f := 1) (k := th) (z := tw_cz z 0 0) X dX13_walks_6 (Or.inl ⟨_, dw_w592⟩) dw_in13 rfl (by decide) (by decide) (fun h => dw_E13 h) rfl ?_
  refine e_imul (z := tw_cz z 0 0) X dX13_walks_9 ?_
  refine e_newA (c := 0) (s := 0) (z := tw_cz z 0 0) X ⟨rfl, rfl⟩ ⟨eMC, eMS⟩ dX13_walks_10 _ dw_w586 hA.2.2.1.2 (fun q1 Y2 => ?_)
  show dw_Rf (tw_cz z 1 (0 + (Int32.toNatClampNeg ((dw_i Y th 0) * (dw_i Y th 1))))) b _ Y2 _ [(0, .ref (b + th)), (1, .int x0), (2, .int x1), (3, .int x2)] [.ref (b + q1), .ref (b + th)]
  show dw_Rf (tw_cz z 1 (0 + (Int32.toNatClampNeg ((dw_i Y th 0) * (dw_i Y th 1))))) b _ Y2 _ [(0, .ref (b + th)), (1, .int x0), (2, .int x1), (3, .int x2)] (dw_v b (some q1) :: .ref (b + th) :: [])
  refine e_put (ci := 13) (T := TX13) (f := 11) (ty := .array (.array .int)) (k := th) (z := tw_cz z 1 (0 + (Int32.toNatClampNeg ((dw_i Y th 0) * (dw_i Y th 1))))) X hb dX13_walks_13 (Or.inl ⟨_, dw_w612⟩) dw_in13 tyX13 tyX13_ok nmX13 rfl (by decide) rfl (by decide +kernel) dw_narrow dw_fitsA (by decide) (fun h => dw_F13 h) (Nat.le_of_ble_eq_true rfl) (fun h => dw_p13_11 h) rfl rfl rfl (fun a ha => dw_E_pr ha) (fun Y3 => ?_)
  refine e_aload_n (z := tw_cz z 1 (0 + (Int32.toNatClampNeg ((dw_i Y th 0) * (dw_i Y th 1))))) X dX13_walks_16 rfl 0 rfl ?_
  refine e_getf (ci := 13) (T := TX13) (f := 6) (k := th) (z := tw_cz z 1 (0 + (Int32.toNatClampNeg ((dw_i Y th 0) * (dw_i Y th 1))))) X dX13_walks_17 (Or.inl ⟨_, dw_w602⟩) dw_in13 rfl (by decide) (by decide) (fun h => dw_E13 h) rfl ?_
  refine e_nn (r := (dw_r Y3 th 6)) (LL := fun _ => [(0, .ref (b + th)), (1, .int x0), (2, .int x1), (3, .int x2)]) (SS := fun q => dw_v b q :: []) (fun r4 => ?_)
  show dw_Rf (tw_cz z 1 (0 + (Int32.toNatClampNeg ((dw_i Y th 0) * (dw_i Y th 1))))) b _ Y3 _ [(0, .ref (b + th)), (1, .int x0), (2, .int x1), (3, .int x2)] [.ref (b + r4)]
  refine e_iload_n (z := tw_cz z 1 (0 + (Int32.toNatClampNeg ((dw_i Y th 0) * (dw_i Y th 1))))) X dX13_walks_20 rfl 1 rfl ?_
  refine e_aald (k := r4) (kd := 24) (a := 7) (ty := .object "TreasureWalkLaw$Clue") (z := tw_cz z 1 (0 + (Int32.toNatClampNeg ((dw_i Y th 0) * (dw_i Y th 1))))) X dX13_walks_21 (by decide) (fun h => dw_E24 h) rfl rfl ?_
  refine e_nn (r := (dw_r Y3 r4 (Int32.toNatClampNeg x0))) (LL := fun _ => [(0, .ref (b + th)), (1, .int x0), (2, .int x1), (3, .int x2)]) (SS := fun q => dw_v b q :: []) (fun r5 => ?_)
  show dw_Rf (tw_cz z 1 (0 + (Int32.toNatClampNeg ((dw_i Y th 0) * (dw_i Y th 1))))) b _ Y3 _ [(0, .ref (b + th)), (1, .int x0), (2, .int x1), (3, .int x2)] [.ref (b + r5)]
  refine e_astore (z := tw_cz z 1 (0 + (Int32.toNatClampNeg ((dw_i Y th 0) * (dw_i Y th 1))))) X dX13_walks_22 (by decide) (L' := [(4, .ref (b + r5)), (0, .ref (b + th)), (1, .int x0), (2, .int x1), (3, .int x2)]) rfl ?_
  refine e_iconst (z := tw_cz z 1 (0 + (Int32.toNatClampNeg ((dw_i Y th 0) * (dw_i Y th 1))))) X dX13_walks_24 (v := (0 : Int32)) (by decide) ?_
  refine e_istore (z := tw_cz z 1 (0 + (Int32.toNatClampNeg ((dw_i Y th 0) * (dw_i Y th 1))))) X dX13_walks_25 (by decide) (LL := fun v6 => [(5, .int v6), (4, .ref (b + r5)), (0, .ref (b + th)), (1, .int x0), (2, .int x1), (3, .int x2)]) (fun _ => rfl) (fun v6 => ?_)
  refine dw_Rf.sub [0, 1, 2, 4, 5] rfl ?_
  refine e_lp (α := Int32 × dw_S × Nat × Nat) (zJ := fun a7 => tw_cz z a7.2.2.1 a7.2.2.2) (YJ := fun a7 => a7.2.1) (pcJ := 27) (LJ := fun a7 => [(5, .int a7.1), (4, .ref (b + r5)), (0, .ref (b + th)), (2, .int x1), (3, .int x2)]) (stJ := fun a7 => []) (fun k8 hk8 a7 => ?_) n (v6, Y3, 1, (0 + (Int32.toNatClampNeg ((dw_i Y th 0) * (dw_i Y th 1)))))
  refine e_iload (z := tw_cz z a7.2.2.1 a7.2.2.2) X dX13_walks_27 0 rfl ?_
  refine e_aload (z := tw_cz z a7.2.2.1 a7.2.2.2) X dX13_walks_29 1 rfl ?_
  refine e_getf (ci := 12) (T := TX12) (f := 0) (k := r5) (z := tw_cz z a7.2.2.1 a7.2.2.2) X dX13_walks_31 (Or.inl ⟨_, dw_w667⟩) dw_in12 rfl (by decide) (by decide) (fun h => dw_E12 h) rfl ?_
  refine e_nn (r := (dw_r a7.2.1 r5 0)) (LL := fun _ => [(5, .int a7.1), (4, .ref (b + r5)), (0, .ref (b + th)), (2, .int x1), (3, .int x2)]) (SS := fun q => dw_v b q :: [.int a7.1]) (fun r9 => ?_)
  show dw_Rf (tw_cz z a7.2.2.1 a7.2.2.2) b _ a7.2.1 _ [(5, .int a7.1), (4, .ref (b + r5)), (0, .ref (b + th)), (2, .int x1), (3, .int x2)] [.ref (b + r9), .int a7.1]
  refine e_alen (k := r9) (kd := 20) (a := 0) (ty := .int) (x := (0, .inl (dw_i a7.2.1 r9))) (z := tw_cz z a7.2.2.1 a7.2.2.2) X dX13_walks_34 (by decide) (fun h => dw_E20 h) rfl ?_
  refine e_icmp_ge (z := tw_cz z a7.2.2.1 a7.2.2.2) X dX13_walks_35 (tgt := 83) (by decide) ?_ ?_
  ·
    refine e_iconst (z := tw_cz z a7.2.2.1 a7.2.2.2) X dX13_walks_83 (v := (0 : Int32)) (by decide) ?_
    refine e_istore (z := tw_cz z a7.2.2.1 a7.2.2.2) X dX13_walks_84 (by decide) (LL := fun v10 => [(5, .int v10), (4, .ref (b + r5)), (0, .ref (b + th)), (2, .int x1), (3, .int x2)]) (fun _ => rfl) (fun v10 => ?_)
    refine e_aload_n (z := tw_cz z a7.2.2.1 a7.2.2.2) X dX13_walks_86 rfl 2 rfl ?_
    refine e_getf (ci := 13) (T := TX13) (f := 11) (k := th) (z := tw_cz z a7.2.2.1 a7.2.2.2) X dX13_walks_87 (Or.inl ⟨_, dw_w612⟩) dw_in13 rfl (by decide) (by decide) (fun h => dw_E13 h) rfl ?_
    refine e_nn (r := (dw_r a7.2.1 th 11)) (LL := fun _ => [(5, .int v10), (4, .ref (b + r5)), (0, .ref (b + th)), (2, .int x1), (3, .int x2)]) (SS := fun q => dw_v b q :: []) (fun r11 => ?_)
    show dw_Rf (tw_cz z a7.2.2.1 a7.2.2.2) b _ a7.2.1 _ [(5, .int v10), (4, .ref (b + r5)), (0, .ref (b + th)), (2, .int x1), (3, .int x2)] [.ref (b + r11)]
    refine e_astore (z := tw_cz z a7.2.2.1 a7.2.2.2) X dX13_walks_90 (by decide) (L' := [(6, .ref (b + r11)), (5, .int v10), (4, .ref (b + r5)), (0, .ref (b + th)), (2, .int x1), (3, .int x2)]) rfl ?_
    refine e_aload (z := tw_cz z a7.2.2.1 a7.2.2.2) X dX13_walks_92 0 rfl ?_
    refine e_alen (k := r11) (kd := 26) (a := 4) (ty := .array .int) (x := (0, .inr (.inr (.inr (.inr (fun j => Option.map (fun a => b + a) (dw_r a7.2.1 r11 j))))))) (z := tw_cz z a7.2.2.1 a7.2.2.2) X dX13_walks_94 (by decide) (fun h => dw_E26 h) rfl ?_
    refine e_istore (z := tw_cz z a7.2.2.1 a7.2.2.2) X dX13_walks_95 (by decide) (LL := fun v12 => [(7, .int v12), (6, .ref (b + r11)), (5, .int v10), (4, .ref (b + r5)), (0, .ref (b + th)), (2, .int x1), (3, .int x2)]) (fun _ => rfl) (fun v12 => ?_)
    refine e_iconst (z := tw_cz z a7.2.2.1 a7.2.2.2) X dX13_walks_97 (v := (0 : Int32)) (by decide) ?_
    refine e_istore (z := tw_cz z a7.2.2.1 a7.2.2.2) X dX13_walks_98 (by decide) (LL := fun v13 => [(8, .int v13), (7, .int v12), (6, .ref (b + r11)), (5, .int v10), (4, .ref (b + r5)), (0, .ref (b + th)), (2, .int x1), (3, .int x2)]) (fun _ => rfl) (fun v13 => ?_)
    refine dw_Rf.sub [0, 1, 2, 3] rfl ?_
    refine e_lp (α := Int32 × Int32 × dw_S × Nat × Nat) (zJ := fun a14 => tw_cz z a14.2.2.2.1 a14.2.2.2.2) (YJ := fun a14 => a14.2.2.1) (pcJ := 100) (LJ := fun a14 => [(8, .int a14.2.1), (7, .int v12), (6, .ref (b + r11)), (5, .int a14.1)]) (stJ := fun a14 => []) (fun k15 hk15 a14 => ?_) n (v10, v13, a7.2.1, a7.2.2.1, a7.2.2.2)
    refine e_iload (z := tw_cz z a14.2.2.2.1 a14.2.2.2.2) X dX13_walks_100 0 rfl ?_
    refine e_iload (z := tw_cz z a14.2.2.2.1 a14.2.2.2.2) X dX13_walks_102 1 rfl ?_
    refine e_icmp_ge (z := tw_cz z a14.2.2.2.1 a14.2.2.2.2) X dX13_walks_104 (tgt := 128) (by decide) ?_ ?_
    ·
      refine e_iload (z := tw_cz z a14.2.2.2.1 a14.2.2.2.2) X dX13_walks_128 3 rfl ?_
      exact e_iret (z := z) X eB dX13_walks_130 hret ⟨eMC, eMS⟩ hQ rfl rfl
    ·
      refine e_aload (z := tw_cz z a14.2.2.2.1 a14.2.2.2.2) X dX13_walks_107 2 rfl ?_
      refine e_iload (z := tw_cz z a14.2.2.2.1 a14.2.2.2.2) X dX13_walks_109 0 rfl ?_
      refine e_aald (k := r11) (kd := 26) (a := 4) (ty := .array .int) (z := tw_cz z a14.2.2.2.1 a14.2.2.2.2) X dX13_walks_111 (by decide) (fun h => dw_E26 h) rfl rfl ?_
      refine e_astore_rnw (z := tw_cz z a14.2.2.2.1 a14.2.2.2.2) X dX13_walks_112 (by decide) (L' := [(9, dw_v b (dw_r a14.2.2.1 r11 (Int32.toNatClampNeg a14.2.1))), (8, .int a14.2.1), (7, .int v12), (6, .ref (b + r11)), (5, .int a14.1)]) rfl ?_
      refine e_aload_rnw (z := tw_cz z a14.2.2.2.1 a14.2.2.2.2) X dX13_walks_114 0 rfl ?_
      refine e_jn (α := Int32) (zJ := fun a16 => tw_cz z a14.2.2.2.1 a14.2.2.2.2) (YJ := fun a16 => a14.2.2.1) (pcJ := 122) (LJ := fun a16 => [(8, .int a14.2.1), (7, .int v12), (6, .ref (b + r11)), (5, .int a16)]) (stJ := fun a16 => []) (fun a16 => ?_) (fun j17 hj17 => ?_)
      ·
        refine e_iinc (z := tw_cz z a14.2.2.2.1 a14.2.2.2.2) X dX13_walks_122 0 rfl (v := (1 : Int32)) (by decide) (by decide) (LL := fun v18 => [(8, .int v18), (7, .int v12), (6, .ref (b + r11)), (5, .int a16)]) (fun _ => rfl) (fun v18 => ?_)
        refine e_goto (z := tw_cz z a14.2.2.2.1 a14.2.2.2.2) X dX13_walks_125 (tgt := 100) (by decide) ?_
        exact hk15 (a16, v18, a14.2.2.1, a14.2.2.2.1, a14.2.2.2.2)
      refine e_ifnull (r := (dw_r a14.2.2.1 r11 (Int32.toNatClampNeg a14.2.1))) (LL := fun q => [(9, dw_v b (dw_r a14.2.2.1 r11 (Int32.toNatClampNeg a14.2.1))), (8, .int a14.2.1), (7, .int v12), (6, .ref (b + r11)), (5, .int a14.1)]) (z := tw_cz z a14.2.2.2.1 a14.2.2.2.2) X dX13_walks_116 (tgt := 122) (by decide) ?_ (fun r19 => ?_)
      ·
        show dw_Rf (tw_cz z a14.2.2.2.1 a14.2.2.2.2) b _ a14.2.2.1 _ [(9, dw_v b (dw_r a14.2.2.1 r11 (Int32.toNatClampNeg a14.2.1))), (8, .int a14.2.1), (7, .int v12), (6, .ref (b + r11)), (5, .int a14.1)] []
        exact dw_Rf.sub [1, 2, 3, 4] rfl (hj17 a14.1)
      ·
        show dw_Rf (tw_cz z a14.2.2.2.1 a14.2.2.2.2) b _ a14.2.2.1 _ [(9, dw_v b (dw_r a14.2.2.1 r11 (Int32.toNatClampNeg a14.2.1))), (8, .int a14.2.1), (7, .int v12), (6, .ref (b + r11)), (5, .int a14.1)] []
        refine e_iinc (z := tw_cz z a14.2.2.2.1 a14.2.2.2.2) X dX13_walks_119 4 rfl (v := (1 : Int32)) (by decide) (by decide) (LL := fun v20 => [(5, .int v20), (9, dw_v b (dw_r a14.2.2.1 r11 (Int32.toNatClampNeg a14.2.1))), (8, .int a14.2.1), (7, .int v12), (6, .ref (b + r11))]) (fun _ => rfl) (fun v20 => ?_)
        exact dw_Rf.sub [2, 3, 4, 0] rfl (hj17 v20)
  ·
    refine e_aload_n (z := tw_cz z a7.2.2.1 a7.2.2.2) X dX13_walks_38 rfl 2 rfl ?_
    refine e_getf (ci := 13) (T := TX13) (f := 12) (k := th) (z := tw_cz z a7.2.2.1 a7.2.2.2) X dX13_walks_39 (Or.inl ⟨_, dw_w613⟩) dw_in13 rfl (by decide) (by decide) (fun h => dw_E13 h) rfl ?_
    refine e_nn (r := (dw_r a7.2.1 th 12)) (LL := fun _ => [(5, .int a7.1), (4, .ref (b + r5)), (0, .ref (b + th)), (2, .int x1), (3, .int x2)]) (SS := fun q => dw_v b q :: []) (fun r21 => ?_)
    show dw_Rf (tw_cz z a7.2.2.1 a7.2.2.2) b _ a7.2.1 _ [(5, .int a7.1), (4, .ref (b + r5)), (0, .ref (b + th)), (2, .int x1), (3, .int x2)] [.ref (b + r21)]
    refine e_iconst (z := tw_cz z a7.2.2.1 a7.2.2.2) X dX13_walks_42 (v := (0 : Int32)) (by decide) ?_
    refine e_iload (z := tw_cz z a7.2.2.1 a7.2.2.2) X dX13_walks_43 0 rfl ?_
    refine e_iast (k := r21) (z := tw_cz z a7.2.2.1 a7.2.2.2) X hb dX13_walks_45 (fun Y22 => ?_)
    refine e_iload_n (z := tw_cz z a7.2.2.1 a7.2.2.2) X dX13_walks_46 rfl 4 rfl ?_
    refine e_jn (α := dw_S × Nat × Nat) (zJ := fun a23 => tw_cz z a23.2.1 a23.2.2) (YJ := fun a23 => a23.1) (pcJ := 77) (LJ := fun a23 => [(5, .int a7.1), (4, .ref (b + r5)), (0, .ref (b + th)), (2, .int x1), (3, .int x2)]) (stJ := fun a23 => []) (fun a23 => ?_) (fun j24 hj24 => ?_)
    ·
      refine e_iinc (z := tw_cz z a23.2.1 a23.2.2) X dX13_walks_77 0 rfl (v := (1 : Int32)) (by decide) (by decide) (LL := fun v25 => [(5, .int v25), (4, .ref (b + r5)), (0, .ref (b + th)), (2, .int x1), (3, .int x2)]) (fun _ => rfl) (fun v25 => ?_)
      refine e_goto (z := tw_cz z a23.2.1 a23.2.2) X dX13_walks_80 (tgt := 27) (by decide) ?_
      exact hk8 (v25, a23.1, a23.2.1, a23.2.2)
    refine e_jn (α := Unit) (zJ := fun a26 => tw_cz z a7.2.2.1 a7.2.2.2) (YJ := fun a26 => Y22) (pcJ := 56) (LJ := fun a26 => [(5, .int a7.1), (4, .ref (b + r5)), (0, .ref (b + th)), (2, .int x1), (3, .int x2)]) (stJ := fun a26 => []) (fun a26 => ?_) (fun j27 hj27 => ?_)
    ·
      refine e_aload_n (z := tw_cz z a7.2.2.1 a7.2.2.2) X dX13_walks_56 rfl 2 rfl ?_
      refine e_aload (z := tw_cz z a7.2.2.1 a7.2.2.2) X dX13_walks_57 1 rfl ?_
      refine e_iconst (z := tw_cz z a7.2.2.1 a7.2.2.2) X dX13_walks_59 (v := (0 : Int32)) (by decide) ?_
      refine e_aload_n (z := tw_cz z a7.2.2.1 a7.2.2.2) X dX13_walks_60 rfl 2 rfl ?_
      refine e_getf (ci := 13) (T := TX13) (f := 4) (k := th) (z := tw_cz z a7.2.2.1 a7.2.2.2) X dX13_walks_61 (Or.inl ⟨_, dw_w598⟩) dw_in13 rfl (by decide) (by decide) (fun h => dw_E13 h) rfl ?_
      refine e_nn (r := (dw_r Y22 th 4)) (LL := fun _ => [(5, .int a7.1), (4, .ref (b + r5)), (0, .ref (b + th)), (2, .int x1), (3, .int x2)]) (SS := fun q => dw_v b q :: [.int (0 : Int32), .ref (b + r5), .ref (b + th)]) (fun r28 => ?_)
      show dw_Rf (tw_cz z a7.2.2.1 a7.2.2.2) b _ Y22 _ [(5, .int a7.1), (4, .ref (b + r5)), (0, .ref (b + th)), (2, .int x1), (3, .int x2)] [.ref (b + r28), .int (0 : Int32), .ref (b + r5), .ref (b + th)]
      refine e_aload (z := tw_cz z a7.2.2.1 a7.2.2.2) X dX13_walks_64 1 rfl ?_
      refine e_getf (ci := 12) (T := TX12) (f := 0) (k := r5) (z := tw_cz z a7.2.2.1 a7.2.2.2) X dX13_walks_66 (Or.inl ⟨_, dw_w667⟩) dw_in12 rfl (by decide) (by decide) (fun h => dw_E12 h) rfl ?_
      refine e_nn (r := (dw_r Y22 r5 0)) (LL := fun _ => [(5, .int a7.1), (4, .ref (b + r5)), (0, .ref (b + th)), (2, .int x1), (3, .int x2)]) (SS := fun q => dw_v b q :: [.ref (b + r28), .int (0 : Int32), .ref (b + r5), .ref (b + th)]) (fun r29 => ?_)
      show dw_Rf (tw_cz z a7.2.2.1 a7.2.2.2) b _ Y22 _ [(5, .int a7.1), (4, .ref (b + r5)), (0, .ref (b + th)), (2, .int x1), (3, .int x2)] [.ref (b + r29), .ref (b + r28), .int (0 : Int32), .ref (b + r5), .ref (b + th)]
      refine e_iload (z := tw_cz z a7.2.2.1 a7.2.2.2) X dX13_walks_69 0 rfl ?_
      refine e_iald (k := r29) (z := tw_cz z a7.2.2.1 a7.2.2.2) X dX13_walks_71 ?_
      refine e_iald (k := r28) (z := tw_cz z a7.2.2.1 a7.2.2.2) X dX13_walks_72 ?_
      refine e_iload_n (z := tw_cz z a7.2.2.1 a7.2.2.2) X dX13_walks_73 rfl 3 rfl ?_
      refine e_callVX (k := th) (ci := 13) (Cn := "TreasureWalkLaw$Island") (T := TX13) (N := 13) (c := a7.2.2.1) (s := a7.2.2.2) (As := [.ref (b + r5), .int (0 : Int32), .int (dw_i Y22 r28 (Int32.toNatClampNeg (dw_i Y22 r29 (Int32.toNatClampNeg a7.1)))), .int x1]) (st := []) (z := tw_cz z a7.2.2.1 a7.2.2.2) X hA hb hD ⟨rfl, rfl⟩ ⟨eMC, eMS⟩ dX13_walks_74 (fun Q h => dw_m_X13_tries hD 4 _ _ _ _ _ _ _ _ h) dw_y_X13_tries dw_v_X13_tries _ dw_w694 (by decide) rfl (fun h => dw_E13 h) rfl ⟨tw_le hfr rfl, tw_le hlo rfl⟩ (Nat.le_of_ble_eq_true rfl) rfl (fun r30 => ?_)
      show dw_Rf (tw_cz z (a7.2.2.1 + r30.1) (a7.2.2.2 + dw_sl 4)) b _ r30.2 _ [(5, .int a7.1), (4, .ref (b + r5)), (0, .ref (b + th)), (2, .int x1), (3, .int x2)] []
      exact hj24 (r30.2, (a7.2.2.1 + r30.1), (a7.2.2.2 + dw_sl 4))
    refine e_if_lt (z := tw_cz z a7.2.2.1 a7.2.2.2) X dX13_walks_47 (tgt := 56) (by decide) ?_ ?_
    ·
      exact hj27 ()
    ·
      refine e_iload (z := tw_cz z a7.2.2.1 a7.2.2.2) X dX13_walks_50 0 rfl ?_
      refine e_iload_n (z := tw_cz z a7.2.2.1 a7.2.2.2) X dX13_walks_52 rfl 4 rfl ?_
      refine e_icmp_ne (z := tw_cz z a7.2.2.1 a7.2.2.2) X dX13_walks_53 (tgt := 77) (by decide) ?_ ?_
      ·
        exact hj24 (Y22, a7.2.2.1, a7.2.2.2)
      ·
        exact hj27 ()
def dw_P_X13_reasons (n : Nat) (th : Nat) (Y : dw_S) (Q : Nat × dw_S → Prop) : Prop :=
pw_ck (dw_is Y th 13) (
pw_ck (dw_is Y th 13) (
pw_ck ((¬ ((dw_i Y th 0) * (dw_i Y th 1)) < 0 ∧ (Int32.toNatClampNeg ((dw_i Y th 0) * (dw_i Y th 1))) ≤ 10000) ∧ 1 ≤ 94 ∧ (0 + (Int32.toNatClampNeg ((dw_i Y th 0) * (dw_i Y th 1)))) ≤ 8544) (
pw_al (dw_n Y) (fun (q1 : Nat) => pw_lt (dw_nw Y q1 20 (Int32.toNatClampNeg ((dw_i Y th 0) * (dw_i Y th 1))) (fun _ => 0) (fun _ => none)) (fun (Y2 : dw_S) =>
pw_ck (dw_is Y2 th 13) (
pw_nn (dw_r Y2 th 6) (fun (r3 : Nat) =>
pw_ck (dw_is Y2 r3 24) (
pw_lt ((Int32.ofNat (dw_l Y2 r3)) - (1 : Int32)) (fun (v4 : Int32) =>
pw_lp (fun (k6 : (Int32 × dw_S × Nat × Nat) → Prop) (a5 : Int32 × dw_S × Nat × Nat) =>
if a5.1 < 0 then (pw_lt (0 : Int32) (fun (v7 : Int32) =>
pw_lp (fun (k9 : (Int32 × dw_S × Nat × Nat) → Prop) (a8 : Int32 × dw_S × Nat × Nat) =>
pw_ck (dw_is a8.2.1 q1 20) (
if (Int32.ofNat (dw_l a8.2.1 q1)) ≤ a8.1 then (pw_ck (a8.2.2.1 ≤ 94 ∧ a8.2.2.2 ≤ 8544) (Q (q1, a8.2.1)))
else (pw_ck (dw_is a8.2.1 th 13) (
pw_nn (dw_r a8.2.1 th 2) (fun (r10 : Nat) =>
pw_ck (dw_is a8.2.1 r10 21 ∧ tw_ok a8.1 (dw_l a8.2.1 r10) = true) (
tw_jn (fun (a11 : dw_S) =>
pw_lt (a8.1 + (1 : Int32)) (fun (v13 : Int32) =>
k9 (v13, a11, a8.2.2.1, a8.2.2.2))) (fun (j12 : (dw_S) → Prop) =>
if (dw_i a8.2.1 r10 (Int32.toNatClampNeg a8.1)) = 0 then (j12 a8.2.1)
else (pw_ck (dw_is a8.2.1 q1 20 ∧ tw_ok a8.1 (dw_l a8.2.1 q1) = true) (pw_lt (dw_pi a8.2.1 q1 (Int32.toNatClampNeg a8.1) (-1 : Int32)) (fun (Y14 : dw_S) =>
j12 Y14)))))))))) n (v7, a5.2.1, a5.2.2.1, a5.2.2.2)))
else (pw_ck (dw_is a5.2.1 th 13) (
pw_nn (dw_r a5.2.1 th 6) (fun (r15 : Nat) =>
pw_ck (dw_is a5.2.1 r15 24 ∧ tw_ok a5.1 (dw_l a5.2.1 r15) = true) (
pw_nn (dw_r a5.2.1 r15 (Int32.toNatClampNeg a5.1)) (fun (r16 : Nat) =>
pw_ck (dw_is a5.2.1 r16 12) (
tw_jn (fun (a17 : Int32 × dw_S × Nat × Nat) =>
pw_lt (a17.1 + (-1 : Int32)) (fun (v19 : Int32) =>
k6 (v19, a17.2.1, a17.2.2.1, a17.2.2.2))) (fun (j18 : (Int32 × dw_S × Nat × Nat) → Prop) =>
if ¬ (dw_i a5.2.1 r16 2) = 0 then (pw_ck (dw_is a5.2.1 th 13) (
pw_nn (dw_r a5.2.1 th 6) (fun (r20 : Nat) =>
pw_ck (dw_is a5.2.1 r20 24 ∧ tw_ok a5.1 (dw_l a5.2.1 r20) = true) (
pw_nn (dw_r a5.2.1 r20 (Int32.toNatClampNeg a5.1)) (fun (r21 : Nat) =>
pw_ck (dw_is a5.2.1 r21 12) (
pw_nn (dw_r a5.2.1 r21 1) (fun (r22 : Nat) =>
pw_ck (dw_is a5.2.1 r22 23) (
pw_ck (dw_is a5.2.1 th 13 ∧ (a5.2.2.1 + 31) ≤ 94 ∧ (a5.2.2.2 + 2838) ≤ 8544) (
dw_P_X13_walks n th a5.1 (Int32.ofNat (dw_l a5.2.1 r22)) (-1 : Int32) a5.2.1 (fun (r23 : Int32 × dw_S) =>
pw_lt (0 : Int32) (fun (v24 : Int32) =>
pw_lp (fun (k26 : (Int32 × Int32 × dw_S) → Prop) (a25 : Int32 × Int32 × dw_S) =>
pw_ck (dw_is a25.2.2 q1 20) (
if (Int32.ofNat (dw_l a25.2.2 q1)) ≤ a25.2.1 then (j18 (a25.1, a25.2.2, (a5.2.2.1 + 31), (a5.2.2.2 + 2838)))
else (pw_ck (dw_is a25.2.2 th 13) (
pw_nn (dw_r a25.2.2 th 11) (fun (r27 : Nat) =>
pw_ck (dw_is a25.2.2 r27 26 ∧ tw_ok a25.2.1 (dw_l a25.2.2 r27) = true) (
tw_jn (fun (a28 : dw_S) =>
pw_lt (a25.2.1 + (1 : Int32)) (fun (v30 : Int32) =>
k26 (a25.1, v30, a28))) (fun (j29 : (dw_S) → Prop) =>
pw_mt (dw_r a25.2.2 r27 (Int32.toNatClampNeg a25.2.1)) (pw_ck (dw_is a25.2.2 q1 20 ∧ tw_ok a25.2.1 (dw_l a25.2.2 q1) = true) (pw_lt (dw_pi a25.2.2 q1 (Int32.toNatClampNeg a25.2.1) (a25.1 + (1 : Int32))) (fun (Y32 : dw_S) =>
j29 Y32))) (fun (r31 : Nat) =>
j29 a25.2.2)))))))) n (a5.1, v24, r23.2))))))))))))
else (j18 (a5.1, a5.2.1, a5.2.2.1, a5.2.2.2)))))))))) n (v4, Y2, 1, (0 + (Int32.toNatClampNeg ((dw_i Y th 0) * (dw_i Y th 1))))))))))))))
theorem dw_y_X13_reasons : tw_My yX13_reasons cX13_reasons 4 (some (.array .int)) 0 := ⟨List.mem_of_getElem? dw_w689, List.mem_of_getElem? dw_w50, by decide +kernel, by decide +kernel, by decide +kernel⟩
theorem dw_v_X13_reasons : dw_Mv yX13_reasons "TreasureWalkLaw$Island" := ⟨List.mem_of_getElem? dw_w687, List.mem_of_getElem? dw_w688⟩
set_option maxRecDepth 100000 in
set_option maxHeartbeats 4000000 in
theorem dw_m_X13_reasons {l : Launch} {b : Nat} {D : tw_G} {C : Nat → ClassId} {S : Nat → Nat} (hD : D.2 = []) {n : Nat} {th : Nat} {Y : dw_S} {Q : Nat × dw_S → Prop}  (h : dw_P_X13_reasons n th Y Q) : dw_Met l b D C S yX13_reasons cX13_reasons 4 (some (.array .int)) ({ frames := 9, cells := 94, slots := 8544, locals := 247 } : Room) [.ref (b + th)] Y (fun r => some (.ref (b + r.1))) (fun r => r.2) Q := by
  refine dw_metOf (dw_P_X13_reasons n th Y Q) h _ _ Q (by decide +kernel) (Nat.le_of_ble_eq_true rfl) ?_
  intro z el eB eD eC eS eR X hA hnm hret hQ
  subst el eD eC eS
  have hb : tw_zB z ≤ b := Nat.le_of_eq eB
  have hA : dw_AK (tw_zB z) (tw_zS z) (tw_zs z) := by rw [eB]; exact hA
  have hfr : (tw_zR z).frames = 9 := by rw [eR]
  have hlo : (tw_zR z).locals = 247 := by rw [eR]
  have eMC : (tw_zR z).cells = 94 := by rw [eR]
  have eMS : (tw_zR z).slots = 8544 := by rw [eR]
  have X : tw_X z cX13_reasons "TreasureWalkLaw$Island" 4 := X
  show dw_Rf (tw_cz z 0 0) b _ Y 0 [(0, .ref (b + th))] []
  unfold dw_P_X13_reasons
  refine e_aload_n (z := tw_cz z 0 0) X dX13_reasons_0 rfl 0 rfl ?_
  refine e_getf (ci := 13) (T := TX13) (f := 0) (k := th) (z := tw_cz z 0 0) X dX13_reasons_1 (Or.inl ⟨_, dw_w590⟩) dw_in13 rfl (by decide) (by decide) (fun h => dw_E13 h) rfl ?_
  refine e_aload_n (z := tw_cz z 0 0) X dX13_reasons_4 rfl 0 rfl ?_
  refine e_getf (ci := 13) (T := TX13) (f := 1) (k := th) (z := tw_cz z 0 0) X dX13_reasons_5 (Or.inl ⟨_, dw_w592⟩) dw_in13 rfl (by decide) (by decide) (fun h => dw_E13 h) rfl ?_
  refine e_imul (z := tw_cz z 0 0) X dX13_reasons_8 ?_
  refine e_newi (c := 0) (s := 0) (z := tw_cz z 0 0) X ⟨rfl, rfl⟩ ⟨eMC, eMS⟩ dX13_reasons_9 hA.1.1 (fun q1 Y2 => ?_)
  show dw_Rf (tw_cz z 1 (0 + (Int32.toNatClampNeg ((dw_i Y th 0) * (dw_i Y th 1))))) b _ Y2 _ [(0, .ref (b + th))] [.ref (b + q1)]
  refine e_astore_n (z := tw_cz z 1 (0 + (Int32.toNatClampNeg ((dw_i Y th 0) * (dw_i Y th 1))))) X dX13_reasons_11 rfl (by decide) (L' := [(1, .ref (b + q1)), (0, .ref (b + th))]) rfl ?_
  refine e_aload_n (z := tw_cz z 1 (0 + (Int32.toNatClampNeg ((dw_i Y th 0) * (dw_i Y th 1))))) X dX13_reasons_12 rfl 1 rfl ?_
  refine e_getf (ci := 13) (T := TX13) (f := 6) (k := th) (z := tw_cz z 1 (0 + (Int32.toNatClampNeg ((dw_i Y th 0) * (dw_i Y th 1))))) X dX13_reasons_13 (Or.inl ⟨_, dw_w602⟩) dw_in13 rfl (by decide) (by decide) (fun h => dw_E13 h) rfl ?_
  refine e_nn (r := (dw_r Y2 th 6)) (LL := fun _ => [(1, .ref (b + q1)), (0, .ref (b + th))]) (SS := fun q => dw_v b q :: []) (fun r3 => ?_)
  show dw_Rf (tw_cz z 1 (0 + (Int32.toNatClampNeg ((dw_i Y th 0) * (dw_i Y th 1))))) b _ Y2 _ [(1, .ref (b + q1)), (0, .ref (b + th))] [.ref (b + r3)]
  refine e_alen (k := r3) (kd := 24) (a := 7) (ty := .object "TreasureWalkLaw$Clue") (x := (0, .inr (.inr (.inr (.inr (fun j => Option.map (fun a => b + a) (dw_r Y2 r3 j))))))) (z := tw_cz z 1 (0 + (Int32.toNatClampNeg ((dw_i Y th 0) * (dw_i Y th 1))))) X dX13_reasons_16 (by decide) (fun h => dw_E24 h) rfl ?_
  refine e_iconst (z := tw_cz z 1 (0 + (Int32.toNatClampNeg ((dw_i Y th 0) * (dw_i Y th 1))))) X dX13_reasons_17 (v := (1 : Int32)) (by decide) ?_
  refine e_isub (z := tw_cz z 1 (0 + (Int32.toNatClampNeg ((dw_i Y th 0) * (dw_i Y th 1))))) X dX13_reasons_18 ?_
  refine e_istore_n (z := tw_cz z 1 (0 + (Int32.toNatClampNeg ((dw_i Y th 0) * (dw_i Y th 1))))) X dX13_reasons_19 rfl (by decide) (LL := fun v4 => [(2, .int v4), (1, .ref (b + q1)), (0, .ref (b + th))]) (fun _ => rfl) (fun v4 => ?_)
  refine e_lp (α := Int32 × dw_S × Nat × Nat) (zJ := fun a5 => tw_cz z a5.2.2.1 a5.2.2.2) (YJ := fun a5 => a5.2.1) (pcJ := 20) (LJ := fun a5 => [(2, .int a5.1), (1, .ref (b + q1)), (0, .ref (b + th))]) (stJ := fun a5 => []) (fun k6 hk6 a5 => ?_) n (v4, Y2, 1, (0 + (Int32.toNatClampNeg ((dw_i Y th 0) * (dw_i Y th 1)))))
  refine e_iload_n (z := tw_cz z a5.2.2.1 a5.2.2.2) X dX13_reasons_20 rfl 0 rfl ?_
  refine e_if_lt (z := tw_cz z a5.2.2.1 a5.2.2.2) X dX13_reasons_21 (tgt := 91) (by decide) ?_ ?_
  ·
    refine e_iconst (z := tw_cz z a5.2.2.1 a5.2.2.2) X dX13_reasons_91 (v := (0 : Int32)) (by decide) ?_
    refine e_istore_n (z := tw_cz z a5.2.2.1 a5.2.2.2) X dX13_reasons_92 rfl (by decide) (LL := fun v7 => [(2, .int v7), (1, .ref (b + q1)), (0, .ref (b + th))]) (fun _ => rfl) (fun v7 => ?_)
    refine e_lp (α := Int32 × dw_S × Nat × Nat) (zJ := fun a8 => tw_cz z a8.2.2.1 a8.2.2.2) (YJ := fun a8 => a8.2.1) (pcJ := 93) (LJ := fun a8 => [(2, .int a8.1), (1, .ref (b + q1)), (0, .ref (b + th))]) (stJ := fun a8 => []) (fun k9 hk9 a8 => ?_) n (v7, a5.2.1, a5.2.2.1, a5.2.2.2)
    refine e_iload_n (z := tw_cz z a8.2.2.1 a8.2.2.2) X dX13_reasons_93 rfl 0 rfl ?_
    refine e_aload_n (z := tw_cz z a8.2.2.1 a8.2.2.2) X dX13_reasons_94 rfl 1 rfl ?_
    refine e_alen (k := q1) (kd := 20) (a := 0) (ty := .int) (x := (0, .inl (dw_i a8.2.1 q1))) (z := tw_cz z a8.2.2.1 a8.2.2.2) X dX13_reasons_95 (by decide) (fun h => dw_E20 h) rfl ?_
    refine e_icmp_ge (z := tw_cz z a8.2.2.1 a8.2.2.2) X dX13_reasons_96 (tgt := 118) (by decide) ?_ ?_
    ·
      refine e_aload_n (z := tw_cz z a8.2.2.1 a8.2.2.2) X dX13_reasons_118 rfl 1 rfl ?_
      exact e_aret (z := z) X eB dX13_reasons_119 hret (Or.inr ⟨_, rfl⟩) (Or.inr ⟨_, rfl⟩) ⟨eMC, eMS⟩ hQ rfl rfl
    ·
      refine e_aload_n (z := tw_cz z a8.2.2.1 a8.2.2.2) X dX13_reasons_99 rfl 2 rfl ?_
      refine e_getf (ci := 13) (T := TX13) (f := 2) (k := th) (z := tw_cz z a8.2.2.1 a8.2.2.2) X dX13_reasons_100 (Or.inl ⟨_, dw_w594⟩) dw_in13 rfl (by decide) (by decide) (fun h => dw_E13 h) rfl ?_
      refine e_nn (r := (dw_r a8.2.1 th 2)) (LL := fun _ => [(2, .int a8.1), (1, .ref (b + q1)), (0, .ref (b + th))]) (SS := fun q => dw_v b q :: []) (fun r10 => ?_)
      show dw_Rf (tw_cz z a8.2.2.1 a8.2.2.2) b _ a8.2.1 _ [(2, .int a8.1), (1, .ref (b + q1)), (0, .ref (b + th))] [.ref (b + r10)]
      refine e_iload_n (z := tw_cz z a8.2.2.1 a8.2.2.2) X dX13_reasons_103 rfl 0 rfl ?_
      refine e_zald (k := r10) (z := tw_cz z a8.2.2.1 a8.2.2.2) X dX13_reasons_104 ?_
      refine e_jn (α := dw_S) (zJ := fun a11 => tw_cz z a8.2.2.1 a8.2.2.2) (YJ := fun a11 => a11) (pcJ := 112) (LJ := fun a11 => [(2, .int a8.1), (1, .ref (b + q1)), (0, .ref (b + th))]) (stJ := fun a11 => []) (fun a11 => ?_) (fun j12 hj12 => ?_)
      ·
        refine e_iinc (z := tw_cz z a8.2.2.1 a8.2.2.2) X dX13_reasons_112 0 rfl (v := (1 : Int32)) (by decide) (by decide) (LL := fun v13 => [(2, .int v13), (1, .ref (b + q1)), (0, .ref (b + th))]) (fun _ => rfl) (fun v13 => ?_)
        refine e_goto (z := tw_cz z a8.2.2.1 a8.2.2.2) X dX13_reasons_115 (tgt := 93) (by decide) ?_
        exact hk9 (v13, a11, a8.2.2.1, a8.2.2.2)
      refine e_if_eq (z := tw_cz z a8.2.2.1 a8.2.2.2) X dX13_reasons_105 (tgt := 112) (by decide) ?_ ?_
      ·
        exact hj12 a8.2.1
      ·
        refine e_aload_n (z := tw_cz z a8.2.2.1 a8.2.2.2) X dX13_reasons_108 rfl 1 rfl ?_
        refine e_iload_n (z := tw_cz z a8.2.2.1 a8.2.2.2) X dX13_reasons_109 rfl 0 rfl ?_
        refine e_iconst (z := tw_cz z a8.2.2.1 a8.2.2.2) X dX13_reasons_110 (v := (-1 : Int32)) (by decide) ?_
        refine e_iast (k := q1) (z := tw_cz z a8.2.2.1 a8.2.2.2) X hb dX13_reasons_111 (fun Y14 => ?_)
        exact hj12 Y14
  ·
    refine e_aload_n (z := tw_cz z a5.2.2.1 a5.2.2.2) X dX13_reasons_24 rfl 2 rfl ?_
    refine e_getf (ci := 13) (T := TX13) (f := 6) (k := th) (z := tw_cz z a5.2.2.1 a5.2.2.2) X dX13_reasons_25 (Or.inl ⟨_, dw_w602⟩) dw_in13 rfl (by decide) (by decide) (fun h => dw_E13 h) rfl ?_
    refine e_nn (r := (dw_r a5.2.1 th 6)) (LL := fun _ => [(2, .int a5.1), (1, .ref (b + q1)), (0, .ref (b + th))]) (SS := fun q => dw_v b q :: []) (fun r15 => ?_)
    show dw_Rf (tw_cz z a5.2.2.1 a5.2.2.2) b _ a5.2.1 _ [(2, .int a5.1), (1, .ref (b + q1)), (0, .ref (b + th))] [.ref (b + r15)]
    refine e_iload_n (z := tw_cz z a5.2.2.1 a5.2.2.2) X dX13_reasons_28 rfl 0 rfl ?_
    refine e_aald (k := r15) (kd := 24) (a := 7) (ty := .object "TreasureWalkLaw$Clue") (z := tw_cz z a5.2.2.1 a5.2.2.2) X dX13_reasons_29 (by decide) (fun h => dw_E24 h) rfl rfl ?_
    refine e_nn (r := (dw_r a5.2.1 r15 (Int32.toNatClampNeg a5.1))) (LL := fun _ => [(2, .int a5.1), (1, .ref (b + q1)), (0, .ref (b + th))]) (SS := fun q => dw_v b q :: []) (fun r16 => ?_)
    show dw_Rf (tw_cz z a5.2.2.1 a5.2.2.2) b _ a5.2.1 _ [(2, .int a5.1), (1, .ref (b + q1)), (0, .ref (b + th))] [.ref (b + r16)]
    refine e_getf (ci := 12) (T := TX12) (f := 2) (k := r16) (z := tw_cz z a5.2.2.1 a5.2.2.2) X dX13_reasons_30 (Or.inl ⟨_, dw_w673⟩) dw_in12 rfl (by decide) (by decide) (fun h => dw_E12 h) rfl ?_
    refine e_jn (α := Int32 × dw_S × Nat × Nat) (zJ := fun a17 => tw_cz z a17.2.2.1 a17.2.2.2) (YJ := fun a17 => a17.2.1) (pcJ := 85) (LJ := fun a17 => [(2, .int a17.1), (1, .ref (b + q1)), (0, .ref (b + th))]) (stJ := fun a17 => []) (fun a17 => ?_) (fun j18 hj18 => ?_)
    ·
      refine e_iinc (z := tw_cz z a17.2.2.1 a17.2.2.2) X dX13_reasons_85 0 rfl (v := (-1 : Int32)) (by decide) (by decide) (LL := fun v19 => [(2, .int v19), (1, .ref (b + q1)), (0, .ref (b + th))]) (fun _ => rfl) (fun v19 => ?_)
      refine e_goto (z := tw_cz z a17.2.2.1 a17.2.2.2) X dX13_reasons_88 (tgt := 20) (by decide) ?_
      exact hk6 (v19, a17.2.1, a17.2.2.1, a17.2.2.2)
    refine e_if_ne (z := tw_cz z a5.2.2.1 a5.2.2.2) X dX13_reasons_33 (tgt := 39) (by decide) ?_ ?_
    ·
      refine e_aload_n (z := tw_cz z a5.2.2.1 a5.2.2.2) X dX13_reasons_39 rfl 2 rfl ?_
      refine e_iload_n (z := tw_cz z a5.2.2.1 a5.2.2.2) X dX13_reasons_40 rfl 0 rfl ?_
      refine e_aload_n (z := tw_cz z a5.2.2.1 a5.2.2.2) X dX13_reasons_41 rfl 2 rfl ?_
      refine e_getf (ci := 13) (T := TX13) (f := 6) (k := th) (z := tw_cz z a5.2.2.1 a5.2.2.2) X dX13_reasons_42 (Or.inl ⟨_, dw_w602⟩) dw_in13 rfl (by decide) (by decide) (fun h => dw_E13 h) rfl ?_
      refine e_nn (r := (dw_r a5.2.1 th 6)) (LL := fun _ => [(2, .int a5.1), (1, .ref (b + q1)), (0, .ref (b + th))]) (SS := fun q => dw_v b q :: [.int a5.1, .ref (b + th)]) (fun r20 => ?_)
      show dw_Rf (tw_cz z a5.2.2.1 a5.2.2.2) b _ a5.2.1 _ [(2, .int a5.1), (1, .ref (b + q1)), (0, .ref (b + th))] [.ref (b + r20), .int a5.1, .ref (b + th)]
      refine e_iload_n (z := tw_cz z a5.2.2.1 a5.2.2.2) X dX13_reasons_45 rfl 0 rfl ?_
      refine e_aald (k := r20) (kd := 24) (a := 7) (ty := .object "TreasureWalkLaw$Clue") (z := tw_cz z a5.2.2.1 a5.2.2.2) X dX13_reasons_46 (by decide) (fun h => dw_E24 h) rfl rfl ?_
      refine e_nn (r := (dw_r a5.2.1 r20 (Int32.toNatClampNeg a5.1))) (LL := fun _ => [(2, .int a5.1), (1, .ref (b + q1)), (0, .ref (b + th))]) (SS := fun q => dw_v b q :: [.int a5.1, .ref (b + th)]) (fun r21 => ?_)
      show dw_Rf (tw_cz z a5.2.2.1 a5.2.2.2) b _ a5.2.1 _ [(2, .int a5.1), (1, .ref (b + q1)), (0, .ref (b + th))] [.ref (b + r21), .int a5.1, .ref (b + th)]
      refine e_getf (ci := 12) (T := TX12) (f := 1) (k := r21) (z := tw_cz z a5.2.2.1 a5.2.2.2) X dX13_reasons_47 (Or.inl ⟨_, dw_w670⟩) dw_in12 rfl (by decide) (by decide) (fun h => dw_E12 h) rfl ?_
      refine e_nn (r := (dw_r a5.2.1 r21 1)) (LL := fun _ => [(2, .int a5.1), (1, .ref (b + q1)), (0, .ref (b + th))]) (SS := fun q => dw_v b q :: [.int a5.1, .ref (b + th)]) (fun r22 => ?_)
      show dw_Rf (tw_cz z a5.2.2.1 a5.2.2.2) b _ a5.2.1 _ [(2, .int a5.1), (1, .ref (b + q1)), (0, .ref (b + th))] [.ref (b + r22), .int a5.1, .ref (b + th)]
      refine e_alen (k := r22) (kd := 23) (a := 6) (ty := .object "TreasureWalkLaw$Leg") (x := (0, .inr (.inr (.inr (.inr (fun j => Option.map (fun a => b + a) (dw_r a5.2.1 r22 j))))))) (z := tw_cz z a5.2.2.1 a5.2.2.2) X dX13_reasons_50 (by decide) (fun h => dw_E23 h) rfl ?_
      refine e_iconst (z := tw_cz z a5.2.2.1 a5.2.2.2) X dX13_reasons_51 (v := (-1 : Int32)) (by decide) ?_
      refine e_callV (k := th) (ci := 13) (Cn := "TreasureWalkLaw$Island") (T := TX13) (N := 13) (c := a5.2.2.1) (s := a5.2.2.2) (As := [.int a5.1, .int (Int32.ofNat (dw_l a5.2.1 r22)), .int (-1 : Int32)]) (z := tw_cz z a5.2.2.1 a5.2.2.2) X hA hb hD ⟨rfl, rfl⟩ ⟨eMC, eMS⟩ dX13_reasons_52 (fun Q h => dw_m_X13_walks hD h) dw_y_X13_walks dw_v_X13_walks _ dw_w690 (by decide) rfl (fun h => dw_E13 h) rfl ⟨tw_le hfr rfl, tw_le hlo rfl⟩ (Nat.le_of_ble_eq_true rfl) rfl (fun r23 => ?_)
      show dw_Rf (tw_cz z (a5.2.2.1 + 31) (a5.2.2.2 + 2838)) b _ r23.2 _ [(2, .int a5.1), (1, .ref (b + q1)), (0, .ref (b + th))] [.int r23.1]
      refine e_pop (z := tw_cz z (a5.2.2.1 + 31) (a5.2.2.2 + 2838)) X dX13_reasons_55 rfl ?_
      refine e_iconst (z := tw_cz z (a5.2.2.1 + 31) (a5.2.2.2 + 2838)) X dX13_reasons_56 (v := (0 : Int32)) (by decide) ?_
      refine e_istore_n (z := tw_cz z (a5.2.2.1 + 31) (a5.2.2.2 + 2838)) X dX13_reasons_57 rfl (by decide) (LL := fun v24 => [(3, .int v24), (2, .int a5.1), (1, .ref (b + q1)), (0, .ref (b + th))]) (fun _ => rfl) (fun v24 => ?_)
      refine e_lp (α := Int32 × Int32 × dw_S) (zJ := fun a25 => tw_cz z (a5.2.2.1 + 31) (a5.2.2.2 + 2838)) (YJ := fun a25 => a25.2.2) (pcJ := 58) (LJ := fun a25 => [(3, .int a25.2.1), (2, .int a25.1), (1, .ref (b + q1)), (0, .ref (b + th))]) (stJ := fun a25 => []) (fun k26 hk26 a25 => ?_) n (a5.1, v24, r23.2)
      refine e_iload_n (z := tw_cz z (a5.2.2.1 + 31) (a5.2.2.2 + 2838)) X dX13_reasons_58 rfl 0 rfl ?_
      refine e_aload_n (z := tw_cz z (a5.2.2.1 + 31) (a5.2.2.2 + 2838)) X dX13_reasons_59 rfl 2 rfl ?_
      refine e_alen (k := q1) (kd := 20) (a := 0) (ty := .int) (x := (0, .inl (dw_i a25.2.2 q1))) (z := tw_cz z (a5.2.2.1 + 31) (a5.2.2.2 + 2838)) X dX13_reasons_60 (by decide) (fun h => dw_E20 h) rfl ?_
      refine e_icmp_ge (z := tw_cz z (a5.2.2.1 + 31) (a5.2.2.2 + 2838)) X dX13_reasons_61 (tgt := 85) (by decide) ?_ ?_
      ·
        exact dw_Rf.sub [1, 2, 3] rfl (hj18 (a25.1, a25.2.2, (a5.2.2.1 + 31), (a5.2.2.2 + 2838)))
      ·
        refine e_aload_n (z := tw_cz z (a5.2.2.1 + 31) (a5.2.2.2 + 2838)) X dX13_reasons_64 rfl 3 rfl ?_
        refine e_getf (ci := 13) (T := TX13) (f := 11) (k := th) (z := tw_cz z (a5.2.2.1 + 31) (a5.2.2.2 + 2838)) X dX13_reasons_65 (Or.inl ⟨_, dw_w612⟩) dw_in13 rfl (by decide) (by decide) (fun h => dw_E13 h) rfl ?_
        refine e_nn (r := (dw_r a25.2.2 th 11)) (LL := fun _ => [(3, .int a25.2.1), (2, .int a25.1), (1, .ref (b + q1)), (0, .ref (b + th))]) (SS := fun q => dw_v b q :: []) (fun r27 => ?_)
        show dw_Rf (tw_cz z (a5.2.2.1 + 31) (a5.2.2.2 + 2838)) b _ a25.2.2 _ [(3, .int a25.2.1), (2, .int a25.1), (1, .ref (b + q1)), (0, .ref (b + th))] [.ref (b + r27)]
        refine e_iload_n (z := tw_cz z (a5.2.2.1 + 31) (a5.2.2.2 + 2838)) X dX13_reasons_68 rfl 0 rfl ?_
        refine e_aald (k := r27) (kd := 26) (a := 4) (ty := .array .int) (z := tw_cz z (a5.2.2.1 + 31) (a5.2.2.2 + 2838)) X dX13_reasons_69 (by decide) (fun h => dw_E26 h) rfl rfl ?_
        refine e_jn (α := dw_S) (zJ := fun a28 => tw_cz z (a5.2.2.1 + 31) (a5.2.2.2 + 2838)) (YJ := fun a28 => a28) (pcJ := 79) (LJ := fun a28 => [(3, .int a25.2.1), (2, .int a25.1), (1, .ref (b + q1)), (0, .ref (b + th))]) (stJ := fun a28 => []) (fun a28 => ?_) (fun j29 hj29 => ?_)
        ·
          refine e_iinc (z := tw_cz z (a5.2.2.1 + 31) (a5.2.2.2 + 2838)) X dX13_reasons_79 0 rfl (v := (1 : Int32)) (by decide) (by decide) (LL := fun v30 => [(3, .int v30), (2, .int a25.1), (1, .ref (b + q1)), (0, .ref (b + th))]) (fun _ => rfl) (fun v30 => ?_)
          refine e_goto (z := tw_cz z (a5.2.2.1 + 31) (a5.2.2.2 + 2838)) X dX13_reasons_82 (tgt := 58) (by decide) ?_
          exact hk26 (a25.1, v30, a28)
        refine e_ifnonnull (r := (dw_r a25.2.2 r27 (Int32.toNatClampNeg a25.2.1))) (LL := fun q => [(3, .int a25.2.1), (2, .int a25.1), (1, .ref (b + q1)), (0, .ref (b + th))]) (z := tw_cz z (a5.2.2.1 + 31) (a5.2.2.2 + 2838)) X dX13_reasons_70 (tgt := 79) (by decide) ?_ (fun r31 => ?_)
        ·
          show dw_Rf (tw_cz z (a5.2.2.1 + 31) (a5.2.2.2 + 2838)) b _ a25.2.2 _ [(3, .int a25.2.1), (2, .int a25.1), (1, .ref (b + q1)), (0, .ref (b + th))] []
          refine e_aload_n (z := tw_cz z (a5.2.2.1 + 31) (a5.2.2.2 + 2838)) X dX13_reasons_73 rfl 2 rfl ?_
          refine e_iload_n (z := tw_cz z (a5.2.2.1 + 31) (a5.2.2.2 + 2838)) X dX13_reasons_74 rfl 0 rfl ?_
          refine e_iload_n (z := tw_cz z (a5.2.2.1 + 31) (a5.2.2.2 + 2838)) X dX13_reasons_75 rfl 1 rfl ?_
          refine e_iconst (z := tw_cz z (a5.2.2.1 + 31) (a5.2.2.2 + 2838)) X dX13_reasons_76 (v := (1 : Int32)) (by decide) ?_
          refine e_iadd (z := tw_cz z (a5.2.2.1 + 31) (a5.2.2.2 + 2838)) X dX13_reasons_77 ?_
          refine e_iast (k := q1) (z := tw_cz z (a5.2.2.1 + 31) (a5.2.2.2 + 2838)) X hb dX13_reasons_78 (fun Y32 => ?_)
          exact hj29 Y32
        ·
          show dw_Rf (tw_cz z (a5.2.2.1 + 31) (a5.2.2.2 + 2838)) b _ a25.2.2 _ [(3, .int a25.2.1), (2, .int a25.1), (1, .ref (b + q1)), (0, .ref (b + th))] []
          exact hj29 a25.2.2
    ·
      refine e_goto (z := tw_cz z a5.2.2.1 a5.2.2.2) X dX13_reasons_36 (tgt := 85) (by decide) ?_
      exact hj18 (a5.1, a5.2.1, a5.2.2.1, a5.2.2.2)
def dw_P_X13_left (n : Nat) (th : Nat) (Y : dw_S) (Q : Nat × dw_S → Prop) : Prop :=
pw_ck (dw_is Y th 13) (
dw_P_X13_reasons n th Y (fun (r1 : Nat × dw_S) =>
pw_ck (dw_is r1.2 r1.1 20) (
pw_ck ((¬ (Int32.ofNat (dw_l r1.2 r1.1)) < 0 ∧ (Int32.toNatClampNeg (Int32.ofNat (dw_l r1.2 r1.1))) ≤ 10000) ∧ 95 ≤ 95 ∧ (8544 + (Int32.toNatClampNeg (Int32.ofNat (dw_l r1.2 r1.1)))) ≤ 8574) (
pw_al (dw_n r1.2) (fun (q2 : Nat) => pw_lt (dw_nw r1.2 q2 21 (Int32.toNatClampNeg (Int32.ofNat (dw_l r1.2 r1.1))) (fun _ => 0) (fun _ => none)) (fun (Y3 : dw_S) =>
pw_lt (0 : Int32) (fun (v4 : Int32) =>
pw_lp (fun (k6 : (Int32 × dw_S) → Prop) (a5 : Int32 × dw_S) =>
pw_ck (dw_is a5.2 q2 21) (
if (Int32.ofNat (dw_l a5.2 q2)) ≤ a5.1 then (pw_ck (95 ≤ 95 ∧ (8544 + (Int32.toNatClampNeg (Int32.ofNat (dw_l r1.2 r1.1)))) ≤ 8574) (Q (q2, a5.2)))
else (pw_ck (dw_is a5.2 r1.1 20 ∧ tw_ok a5.1 (dw_l a5.2 r1.1) = true) (
tw_jn (fun (a7 : Int32) =>
pw_ck (dw_is a5.2 q2 21 ∧ tw_ok a5.1 (dw_l a5.2 q2) = true) (pw_lt (dw_pi a5.2 q2 (Int32.toNatClampNeg a5.1) (vp_nar .boolean a7)) (fun (Y9 : dw_S) =>
pw_lt (a5.1 + (1 : Int32)) (fun (v10 : Int32) =>
k6 (v10, Y9))))) (fun (j8 : (Int32) → Prop) =>
tw_jn (fun (a11 : Unit) =>
j8 (0 : Int32)) (fun (j12 : (Unit) → Prop) =>
if ¬ (dw_i a5.2 r1.1 (Int32.toNatClampNeg a5.1)) = 0 then (j12 ())
else (pw_ck (dw_is a5.2 th 13) (
pw_nn (dw_r a5.2 th 3) (fun (r13 : Nat) =>
pw_ck (dw_is a5.2 r13 21 ∧ tw_ok a5.1 (dw_l a5.2 r13) = true) (
if ¬ (dw_i a5.2 r13 (Int32.toNatClampNeg a5.1)) = 0 then (j12 ())
else (j8 (1 : Int32)))))))))))) n (v4, Y3))))))))
theorem dw_y_X13_left : tw_My yX13_left cX13_left 4 (some (.array .boolean)) 0 := ⟨List.mem_of_getElem? dw_w685, List.mem_of_getElem? dw_w50, by decide +kernel, by decide +kernel, by decide +kernel⟩
theorem dw_v_X13_left : dw_Mv yX13_left "TreasureWalkLaw$Island" := ⟨List.mem_of_getElem? dw_w683, List.mem_of_getElem? dw_w684⟩
set_option maxRecDepth 100000 in
set_option maxHeartbeats 4000000 in
theorem dw_m_X13_left {l : Launch} {b : Nat} {D : tw_G} {C : Nat → ClassId} {S : Nat → Nat} (hD : D.2 = []) {n : Nat} {th : Nat} {Y : dw_S} {Q : Nat × dw_S → Prop}  (h : dw_P_X13_left n th Y Q) : dw_Met l b D C S yX13_left cX13_left 4 (some (.array .boolean)) ({ frames := 10, cells := 95, slots := 8574, locals := 270 } : Room) [.ref (b + th)] Y (fun r => some (.ref (b + r.1))) (fun r => r.2) Q := by
  refine dw_metOf (dw_P_X13_left n th Y Q) h _ _ Q (by decide +kernel) (Nat.le_of_ble_eq_true rfl) ?_
  intro z el eB eD eC eS eR X hA hnm hret hQ
  subst el eD eC eS
  have hb : tw_zB z ≤ b := Nat.le_of_eq eB
  have hA : dw_AK (tw_zB z) (tw_zS z) (tw_zs z) := by rw [eB]; exact hA
  have hfr : (tw_zR z).frames = 10 := by rw [eR]
  have hlo : (tw_zR z).locals = 270 := by rw [eR]
  have eMC : (tw_zR z).cells = 95 := by rw [eR]
  have eMS : (tw_zR z).slots = 8574 := by rw [eR]
  have X : tw_X z cX13_left "TreasureWalkLaw$Island" 4 := X
  show dw_Rf (tw_cz z 0 0) b _ Y 0 [(0, .ref (b + th))] []
  unfold dw_P_X13_left
  refine e_aload_n (z := tw_cz z 0 0) X dX13_left_0 rfl 0 rfl ?_
  refine dw_ckq (by exact ⟨Nat.le_of_ble_eq_true rfl, Nat.le_of_ble_eq_true rfl⟩) (e_callV (k := th) (ci := 13) (Cn := "TreasureWalkLaw$Island") (T := TX13) (N := 13) (c := 0) (s := 0) (As := []) (z := tw_cz z 0 0) X hA hb hD ⟨rfl, rfl⟩ ⟨eMC, eMS⟩ dX13_left_1 (fun Q h => dw_m_X13_reasons hD h) dw_y_X13_reasons dw_v_X13_reasons _ dw_w686 (by decide) rfl (fun h => dw_E13 h) rfl ⟨tw_le hfr rfl, tw_le hlo rfl⟩ (Nat.le_of_ble_eq_true rfl) rfl (fun r1 => ?_))
  show dw_Rf (tw_cz z 94 8544) b _ r1.2 _ [(0, .ref (b + th))] [.ref (b + r1.1)]
  refine e_astore_n (z := tw_cz z 94 8544) X dX13_left_4 rfl (by decide) (L' := [(1, .ref (b + r1.1)), (0, .ref (b + th))]) rfl ?_
  refine e_aload_n (z := tw_cz z 94 8544) X dX13_left_5 rfl 0 rfl ?_
  refine e_alen (k := r1.1) (kd := 20) (a := 0) (ty := .int) (x := (0, .inl (dw_i r1.2 r1.1))) (z := tw_cz z 94 8544) X dX13_left_6 (by decide) (fun h => dw_E20 h) rfl ?_
  refine e_newz (c := 94) (s := 8544) (z := tw_cz z 94 8544) X ⟨rfl, rfl⟩ ⟨eMC, eMS⟩ dX13_left_7 hA.1.2.1 (fun q2 Y3 => ?_)
  show dw_Rf (tw_cz z 95 (8544 + (Int32.toNatClampNeg (Int32.ofNat (dw_l r1.2 r1.1))))) b _ Y3 _ [(1, .ref (b + r1.1)), (0, .ref (b + th))] [.ref (b + q2)]
  refine e_astore_n (z := tw_cz z 95 (8544 + (Int32.toNatClampNeg (Int32.ofNat (dw_l r1.2 r1.1))))) X dX13_left_9 rfl (by decide) (L' := [(2, .ref (b + q2)), (1, .ref (b + r1.1)), (0, .ref (b + th))]) rfl ?_
  refine e_iconst (z := tw_cz z 95 (8544 + (Int32.toNatClampNeg (Int32.ofNat (dw_l r1.2 r1.1))))) X dX13_left_10 (v := (0 : Int32)) (by decide) ?_
  refine e_istore_n (z := tw_cz z 95 (8544 + (Int32.toNatClampNeg (Int32.ofNat (dw_l r1.2 r1.1))))) X dX13_left_11 rfl (by decide) (LL := fun v4 => [(3, .int v4), (2, .ref (b + q2)), (1, .ref (b + r1.1)), (0, .ref (b + th))]) (fun _ => rfl) (fun v4 => ?_)
  refine e_lp (α := Int32 × dw_S) (zJ := fun a5 => tw_cz z 95 (8544 + (Int32.toNatClampNeg (Int32.ofNat (dw_l r1.2 r1.1))))) (YJ := fun a5 => a5.2) (pcJ := 12) (LJ := fun a5 => [(3, .int a5.1), (2, .ref (b + q2)), (1, .ref (b + r1.1)), (0, .ref (b + th))]) (stJ := fun a5 => []) (fun k6 hk6 a5 => ?_) n (v4, Y3)
  refine e_iload_n (z := tw_cz z 95 (8544 + (Int32.toNatClampNeg (Int32.ofNat (dw_l r1.2 r1.1))))) X dX13_left_12 rfl 0 rfl ?_
  refine e_aload_n (z := tw_cz z 95 (8544 + (Int32.toNatClampNeg (Int32.ofNat (dw_l r1.2 r1.1))))) X dX13_left_13 rfl 1 rfl ?_
  refine e_alen (k := q2) (kd := 21) (a := 1) (ty := .boolean) (x := (0, .inl (dw_i a5.2 q2))) (z := tw_cz z 95 (8544 + (Int32.toNatClampNeg (Int32.ofNat (dw_l r1.2 r1.1))))) X dX13_left_14 (by decide) (fun h => dw_E21 h) rfl ?_
  refine e_icmp_ge (z := tw_cz z 95 (8544 + (Int32.toNatClampNeg (Int32.ofNat (dw_l r1.2 r1.1))))) X dX13_left_15 (tgt := 47) (by decide) ?_ ?_
  ·
    refine e_aload_n (z := tw_cz z 95 (8544 + (Int32.toNatClampNeg (Int32.ofNat (dw_l r1.2 r1.1))))) X dX13_left_47 rfl 1 rfl ?_
    exact e_aret (z := z) X eB dX13_left_48 hret (Or.inr ⟨_, rfl⟩) (Or.inr ⟨_, rfl⟩) ⟨eMC, eMS⟩ hQ rfl rfl
  ·
    refine e_aload_n (z := tw_cz z 95 (8544 + (Int32.toNatClampNeg (Int32.ofNat (dw_l r1.2 r1.1))))) X dX13_left_18 rfl 1 rfl ?_
    refine e_iload_n (z := tw_cz z 95 (8544 + (Int32.toNatClampNeg (Int32.ofNat (dw_l r1.2 r1.1))))) X dX13_left_19 rfl 0 rfl ?_
    refine e_aload_n (z := tw_cz z 95 (8544 + (Int32.toNatClampNeg (Int32.ofNat (dw_l r1.2 r1.1))))) X dX13_left_20 rfl 2 rfl ?_
    refine e_iload_n (z := tw_cz z 95 (8544 + (Int32.toNatClampNeg (Int32.ofNat (dw_l r1.2 r1.1))))) X dX13_left_21 rfl 0 rfl ?_
    refine e_iald (k := r1.1) (z := tw_cz z 95 (8544 + (Int32.toNatClampNeg (Int32.ofNat (dw_l r1.2 r1.1))))) X dX13_left_22 ?_
    refine e_jn (α := Int32) (zJ := fun a7 => tw_cz z 95 (8544 + (Int32.toNatClampNeg (Int32.ofNat (dw_l r1.2 r1.1))))) (YJ := fun a7 => a5.2) (pcJ := 40) (LJ := fun a7 => [(3, .int a5.1), (2, .ref (b + q2)), (1, .ref (b + r1.1)), (0, .ref (b + th))]) (stJ := fun a7 => [.int a7, .int a5.1, .ref (b + q2)]) (fun a7 => ?_) (fun j8 hj8 => ?_)
    ·
      refine e_zast (k := q2) (z := tw_cz z 95 (8544 + (Int32.toNatClampNeg (Int32.ofNat (dw_l r1.2 r1.1))))) X hb dX13_left_40 (fun Y9 => ?_)
      refine e_iinc (z := tw_cz z 95 (8544 + (Int32.toNatClampNeg (Int32.ofNat (dw_l r1.2 r1.1))))) X dX13_left_41 0 rfl (v := (1 : Int32)) (by decide) (by decide) (LL := fun v10 => [(3, .int v10), (2, .ref (b + q2)), (1, .ref (b + r1.1)), (0, .ref (b + th))]) (fun _ => rfl) (fun v10 => ?_)
      refine e_goto (z := tw_cz z 95 (8544 + (Int32.toNatClampNeg (Int32.ofNat (dw_l r1.2 r1.1))))) X dX13_left_44 (tgt := 12) (by decide) ?_
      exact hk6 (v10, Y9)
    refine e_jn (α := Unit) (zJ := fun a11 => tw_cz z 95 (8544 + (Int32.toNatClampNeg (Int32.ofNat (dw_l r1.2 r1.1))))) (YJ := fun a11 => a5.2) (pcJ := 39) (LJ := fun a11 => [(3, .int a5.1), (2, .ref (b + q2)), (1, .ref (b + r1.1)), (0, .ref (b + th))]) (stJ := fun a11 => [.int a5.1, .ref (b + q2)]) (fun a11 => ?_) (fun j12 hj12 => ?_)
    ·
      refine e_iconst (z := tw_cz z 95 (8544 + (Int32.toNatClampNeg (Int32.ofNat (dw_l r1.2 r1.1))))) X dX13_left_39 (v := (0 : Int32)) (by decide) ?_
      exact hj8 (0 : Int32)
    refine e_if_ne (z := tw_cz z 95 (8544 + (Int32.toNatClampNeg (Int32.ofNat (dw_l r1.2 r1.1))))) X dX13_left_23 (tgt := 39) (by decide) ?_ ?_
    ·
      exact hj12 ()
    ·
      refine e_aload_n (z := tw_cz z 95 (8544 + (Int32.toNatClampNeg (Int32.ofNat (dw_l r1.2 r1.1))))) X dX13_left_26 rfl 3 rfl ?_
      refine e_getf (ci := 13) (T := TX13) (f := 3) (k := th) (z := tw_cz z 95 (8544 + (Int32.toNatClampNeg (Int32.ofNat (dw_l r1.2 r1.1))))) X dX13_left_27 (Or.inl ⟨_, dw_w596⟩) dw_in13 rfl (by decide) (by decide) (fun h => dw_E13 h) rfl ?_
      refine e_nn (r := (dw_r a5.2 th 3)) (LL := fun _ => [(3, .int a5.1), (2, .ref (b + q2)), (1, .ref (b + r1.1)), (0, .ref (b + th))]) (SS := fun q => dw_v b q :: [.int a5.1, .ref (b + q2)]) (fun r13 => ?_)
      show dw_Rf (tw_cz z 95 (8544 + (Int32.toNatClampNeg (Int32.ofNat (dw_l r1.2 r1.1))))) b _ a5.2 _ [(3, .int a5.1), (2, .ref (b + q2)), (1, .ref (b + r1.1)), (0, .ref (b + th))] [.ref (b + r13), .int a5.1, .ref (b + q2)]
      refine e_iload_n (z := tw_cz z 95 (8544 + (Int32.toNatClampNeg (Int32.ofNat (dw_l r1.2 r1.1))))) X dX13_left_30 rfl 0 rfl ?_
      refine e_zald (k := r13) (z := tw_cz z 95 (8544 + (Int32.toNatClampNeg (Int32.ofNat (dw_l r1.2 r1.1))))) X dX13_left_31 ?_
      refine e_if_ne (z := tw_cz z 95 (8544 + (Int32.toNatClampNeg (Int32.ofNat (dw_l r1.2 r1.1))))) X dX13_left_32 (tgt := 39) (by decide) ?_ ?_
      ·
        exact hj12 ()
      ·
        refine e_iconst (z := tw_cz z 95 (8544 + (Int32.toNatClampNeg (Int32.ofNat (dw_l r1.2 r1.1))))) X dX13_left_35 (v := (1 : Int32)) (by decide) ?_
        refine e_goto (z := tw_cz z 95 (8544 + (Int32.toNatClampNeg (Int32.ofNat (dw_l r1.2 r1.1))))) X dX13_left_36 (tgt := 40) (by decide) ?_
        exact hj8 (1 : Int32)
def dw_P_X13_parts (n : Nat) (th : Nat) (r0 : Nat) (Y : dw_S) (Q : Int32 × dw_S → Prop) : Prop :=
pw_ck (dw_is Y r0 21) (
pw_ck ((¬ (Int32.ofNat (dw_l Y r0)) < 0 ∧ (Int32.toNatClampNeg (Int32.ofNat (dw_l Y r0))) ≤ 10000) ∧ 1 ≤ 31 ∧ (0 + (Int32.toNatClampNeg (Int32.ofNat (dw_l Y r0)))) ≤ 930) (
pw_al (dw_n Y) (fun (q1 : Nat) => pw_lt (dw_nw Y q1 21 (Int32.toNatClampNeg (Int32.ofNat (dw_l Y r0))) (fun _ => 0) (fun _ => none)) (fun (Y2 : dw_S) =>
pw_lt (0 : Int32) (fun (v3 : Int32) =>
pw_lt (0 : Int32) (fun (v4 : Int32) =>
pw_lp (fun (k6 : (Int32 × Int32 × dw_S × Nat × Nat) → Prop) (a5 : Int32 × Int32 × dw_S × Nat × Nat) =>
pw_ck (dw_is a5.2.2.1 r0 21) (
if (Int32.ofNat (dw_l a5.2.2.1 r0)) ≤ a5.2.1 then (pw_ck (a5.2.2.2.1 ≤ 31 ∧ a5.2.2.2.2 ≤ 930) (Q (a5.1, a5.2.2.1)))
else (pw_ck (dw_is a5.2.2.1 r0 21 ∧ tw_ok a5.2.1 (dw_l a5.2.2.1 r0) = true) (
tw_jn (fun (a7 : Int32 × Int32 × dw_S × Nat × Nat) =>
pw_lt (a7.2.1 + (1 : Int32)) (fun (v9 : Int32) =>
k6 (a7.1, v9, a7.2.2.1, a7.2.2.2.1, a7.2.2.2.2))) (fun (j8 : (Int32 × Int32 × dw_S × Nat × Nat) → Prop) =>
if (dw_i a5.2.2.1 r0 (Int32.toNatClampNeg a5.2.1)) = 0 then (j8 (a5.1, a5.2.1, a5.2.2.1, a5.2.2.2.1, a5.2.2.2.2))
else (pw_ck (dw_is a5.2.2.1 q1 21 ∧ tw_ok a5.2.1 (dw_l a5.2.2.1 q1) = true) (
if (dw_i a5.2.2.1 q1 (Int32.toNatClampNeg a5.2.1)) = 0 then (pw_lt (a5.1 + (1 : Int32)) (fun (v10 : Int32) =>
pw_ck (dw_is a5.2.2.1 th 13 ∧ (a5.2.2.2.1 + 1) ≤ 31 ∧ (a5.2.2.2.2 + 30) ≤ 930) (
dw_P_X13_far n th a5.2.1 (some r0) a5.2.2.1 (fun (r11 : Nat × dw_S) =>
pw_lt (0 : Int32) (fun (v12 : Int32) =>
pw_lp (fun (k14 : (Int32 × Int32 × dw_S) → Prop) (a13 : Int32 × Int32 × dw_S) =>
pw_ck (dw_is a13.2.2 r11.1 20) (
if (Int32.ofNat (dw_l a13.2.2 r11.1)) ≤ a13.2.1 then (j8 (v10, a13.1, a13.2.2, (a5.2.2.2.1 + 1), (a5.2.2.2.2 + 30)))
else (pw_ck (dw_is a13.2.2 q1 21 ∧ tw_ok a13.2.1 (dw_l a13.2.2 q1) = true) (
pw_ck (dw_is a13.2.2 r11.1 20 ∧ tw_ok a13.2.1 (dw_l a13.2.2 r11.1) = true) (
tw_jn (fun (a15 : Int32) =>
pw_ck (dw_is a13.2.2 q1 21 ∧ tw_ok a13.2.1 (dw_l a13.2.2 q1) = true) (pw_lt (dw_pi a13.2.2 q1 (Int32.toNatClampNeg a13.2.1) (vp_nar .boolean ((dw_i a13.2.2 q1 (Int32.toNatClampNeg a13.2.1)) ||| a15))) (fun (Y17 : dw_S) =>
pw_lt (a13.2.1 + (1 : Int32)) (fun (v18 : Int32) =>
k14 (a13.1, v18, Y17))))) (fun (j16 : (Int32) → Prop) =>
if (9999 : Int32) ≤ (dw_i a13.2.2 r11.1 (Int32.toNatClampNeg a13.2.1)) then (j16 (0 : Int32))
else (j16 (1 : Int32)))))))) n (a5.2.1, v12, r11.2))))))
else (j8 (a5.1, a5.2.1, a5.2.2.1, a5.2.2.2.1, a5.2.2.2.2))))))))) n (v3, v4, Y2, 1, (0 + (Int32.toNatClampNeg (Int32.ofNat (dw_l Y r0)))))))))))
theorem dw_y_X13_parts : tw_My yX13_parts cX13_parts 7 (some .int) 1 := ⟨List.mem_of_getElem? dw_w1593, List.mem_of_getElem? dw_w50, by decide +kernel, by decide +kernel, by decide +kernel⟩
theorem dw_v_X13_parts : dw_Mv yX13_parts "TreasureWalkLaw$Island" := ⟨List.mem_of_getElem? dw_w1591, List.mem_of_getElem? dw_w1592⟩
set_option maxRecDepth 100000 in
set_option maxHeartbeats 4000000 in
theorem dw_m_X13_parts {l : Launch} {b : Nat} {D : tw_G} {C : Nat → ClassId} {S : Nat → Nat} (hD : D.2 = []) {n : Nat} {th : Nat} {r0 : Nat} {Y : dw_S} {Q : Int32 × dw_S → Prop}  (h : dw_P_X13_parts n th r0 Y Q) : dw_Met l b D C S yX13_parts cX13_parts 7 (some .int) ({ frames := 2, cells := 31, slots := 930, locals := 53 } : Room) [.ref (b + th), .ref (b + r0)] Y (fun r => some (.int r.1)) (fun r => r.2) Q := by
  refine dw_metOf (dw_P_X13_parts n th r0 Y Q) h _ _ Q (by decide +kernel) (Nat.le_of_ble_eq_true rfl) ?_
  intro z el eB eD eC eS eR X hA hnm hret hQ
  subst el eD eC eS
  have hb : tw_zB z ≤ b := Nat.le_of_eq eB
  have hA : dw_AK (tw_zB z) (tw_zS z) (tw_zs z) := by rw [eB]; exact hA
  have hfr : (tw_zR z).frames = 2 := by rw [eR]
  have hlo : (tw_zR z).locals = 53 := by rw [eR]
  have eMC : (tw_zR z).cells = 31 := by rw [eR]
  have eMS : (tw_zR z).slots = 930 := by rw [eR]
  have X : tw_X z cX13_parts "TreasureWalkLaw$Island" 7 := X
  show dw_Rf (tw_cz z 0 0) b _ Y 0 [(0, .ref (b + th)), (1, .ref (b + r0))] []
  unfold dw_P_X13_parts
  refine e_aload_n (z := tw_cz z 0 0) X dX13_parts_0 rfl 1 rfl ?_
  refine e_alen (k := r0) (kd := 21) (a := 1) (ty := .boolean) (x := (0, .inl (dw_i Y r0))) (z := tw_cz z 0 0) X dX13_parts_1 (by decide) (fun h => dw_E21 h) rfl ?_
  refine e_newz (c := 0) (s := 0) (z := tw_cz z 0 0) X ⟨rfl, rfl⟩ ⟨eMC, eMS⟩ dX13_parts_2 hA.1.2.1 (fun q1 Y2 => ?_)
  show dw_Rf (tw_cz z 1 (0 + (Int32.toNatClampNeg (Int32.ofNat (dw_l Y r0))))) b _ Y2 _ [(0, .ref (b + th)), (1, .ref (b + r0))] [.ref (b + q1)]
  refine e_astore_n (z := tw_cz z 1 (0 + (Int32.toNatClampNeg (Int32.ofNat (dw_l Y r0))))) X dX13_parts_4 rfl (by decide) (L' := [(2, .ref (b + q1)), (0, .ref (b + th)), (1, .ref (b + r0))]) rfl ?_
  refine e_iconst (z := tw_cz z 1 (0 + (Int32.toNatClampNeg (Int32.ofNat (dw_l Y r0))))) X dX13_parts_5 (v := (0 : Int32)) (by decide) ?_
  refine e_istore_n (z := tw_cz z 1 (0 + (Int32.toNatClampNeg (Int32.ofNat (dw_l Y r0))))) X dX13_parts_6 rfl (by decide) (LL := fun v3 => [(3, .int v3), (2, .ref (b + q1)), (0, .ref (b + th)), (1, .ref (b + r0))]) (fun _ => rfl) (fun v3 => ?_)
  refine e_iconst (z := tw_cz z 1 (0 + (Int32.toNatClampNeg (Int32.ofNat (dw_l Y r0))))) X dX13_parts_7 (v := (0 : Int32)) (by decide) ?_
  refine e_istore (z := tw_cz z 1 (0 + (Int32.toNatClampNeg (Int32.ofNat (dw_l Y r0))))) X dX13_parts_8 (by decide) (LL := fun v4 => [(4, .int v4), (3, .int v3), (2, .ref (b + q1)), (0, .ref (b + th)), (1, .ref (b + r0))]) (fun _ => rfl) (fun v4 => ?_)
  refine e_lp (α := Int32 × Int32 × dw_S × Nat × Nat) (zJ := fun a5 => tw_cz z a5.2.2.2.1 a5.2.2.2.2) (YJ := fun a5 => a5.2.2.1) (pcJ := 10) (LJ := fun a5 => [(4, .int a5.2.1), (3, .int a5.1), (2, .ref (b + q1)), (0, .ref (b + th)), (1, .ref (b + r0))]) (stJ := fun a5 => []) (fun k6 hk6 a5 => ?_) n (v3, v4, Y2, 1, (0 + (Int32.toNatClampNeg (Int32.ofNat (dw_l Y r0)))))
  refine e_iload (z := tw_cz z a5.2.2.2.1 a5.2.2.2.2) X dX13_parts_10 0 rfl ?_
  refine e_aload_n (z := tw_cz z a5.2.2.2.1 a5.2.2.2.2) X dX13_parts_12 rfl 4 rfl ?_
  refine e_alen (k := r0) (kd := 21) (a := 1) (ty := .boolean) (x := (0, .inl (dw_i a5.2.2.1 r0))) (z := tw_cz z a5.2.2.2.1 a5.2.2.2.2) X dX13_parts_13 (by decide) (fun h => dw_E21 h) rfl ?_
  refine e_icmp_ge (z := tw_cz z a5.2.2.2.1 a5.2.2.2.2) X dX13_parts_14 (tgt := 92) (by decide) ?_ ?_
  ·
    refine e_iload_n (z := tw_cz z a5.2.2.2.1 a5.2.2.2.2) X dX13_parts_92 rfl 1 rfl ?_
    exact e_iret (z := z) X eB dX13_parts_93 hret ⟨eMC, eMS⟩ hQ rfl rfl
  ·
    refine e_aload_n (z := tw_cz z a5.2.2.2.1 a5.2.2.2.2) X dX13_parts_17 rfl 4 rfl ?_
    refine e_iload (z := tw_cz z a5.2.2.2.1 a5.2.2.2.2) X dX13_parts_18 0 rfl ?_
    refine e_zald (k := r0) (z := tw_cz z a5.2.2.2.1 a5.2.2.2.2) X dX13_parts_20 ?_
    refine e_jn (α := Int32 × Int32 × dw_S × Nat × Nat) (zJ := fun a7 => tw_cz z a7.2.2.2.1 a7.2.2.2.2) (YJ := fun a7 => a7.2.2.1) (pcJ := 86) (LJ := fun a7 => [(4, .int a7.2.1), (3, .int a7.1), (2, .ref (b + q1)), (0, .ref (b + th)), (1, .ref (b + r0))]) (stJ := fun a7 => []) (fun a7 => ?_) (fun j8 hj8 => ?_)
    ·
      refine e_iinc (z := tw_cz z a7.2.2.2.1 a7.2.2.2.2) X dX13_parts_86 0 rfl (v := (1 : Int32)) (by decide) (by decide) (LL := fun v9 => [(4, .int v9), (3, .int a7.1), (2, .ref (b + q1)), (0, .ref (b + th)), (1, .ref (b + r0))]) (fun _ => rfl) (fun v9 => ?_)
      refine e_goto (z := tw_cz z a7.2.2.2.1 a7.2.2.2.2) X dX13_parts_89 (tgt := 10) (by decide) ?_
      exact hk6 (a7.1, v9, a7.2.2.1, a7.2.2.2.1, a7.2.2.2.2)
    refine e_if_eq (z := tw_cz z a5.2.2.2.1 a5.2.2.2.2) X dX13_parts_21 (tgt := 86) (by decide) ?_ ?_
    ·
      exact hj8 (a5.1, a5.2.1, a5.2.2.1, a5.2.2.2.1, a5.2.2.2.2)
    ·
      refine e_aload_n (z := tw_cz z a5.2.2.2.1 a5.2.2.2.2) X dX13_parts_24 rfl 2 rfl ?_
      refine e_iload (z := tw_cz z a5.2.2.2.1 a5.2.2.2.2) X dX13_parts_25 0 rfl ?_
      refine e_zald (k := q1) (z := tw_cz z a5.2.2.2.1 a5.2.2.2.2) X dX13_parts_27 ?_
      refine e_if_eq (z := tw_cz z a5.2.2.2.1 a5.2.2.2.2) X dX13_parts_28 (tgt := 34) (by decide) ?_ ?_
      ·
        refine e_iinc (z := tw_cz z a5.2.2.2.1 a5.2.2.2.2) X dX13_parts_34 1 rfl (v := (1 : Int32)) (by decide) (by decide) (LL := fun v10 => [(3, .int v10), (4, .int a5.2.1), (2, .ref (b + q1)), (0, .ref (b + th)), (1, .ref (b + r0))]) (fun _ => rfl) (fun v10 => ?_)
        refine e_aload_n (z := tw_cz z a5.2.2.2.1 a5.2.2.2.2) X dX13_parts_37 rfl 3 rfl ?_
        refine e_iload (z := tw_cz z a5.2.2.2.1 a5.2.2.2.2) X dX13_parts_38 1 rfl ?_
        refine e_aload_n (z := tw_cz z a5.2.2.2.1 a5.2.2.2.2) X dX13_parts_40 rfl 4 rfl ?_
        show dw_Rf (tw_cz z a5.2.2.2.1 a5.2.2.2.2) b _ a5.2.2.1 _ [(3, .int v10), (4, .int a5.2.1), (2, .ref (b + q1)), (0, .ref (b + th)), (1, .ref (b + r0))] (dw_v b (some r0) :: .int a5.2.1 :: .ref (b + th) :: [])
        refine e_callV (k := th) (ci := 13) (Cn := "TreasureWalkLaw$Island") (T := TX13) (N := 13) (c := a5.2.2.2.1) (s := a5.2.2.2.2) (As := [.int a5.2.1, dw_v b (some r0)]) (z := tw_cz z a5.2.2.2.1 a5.2.2.2.2) X hA hb hD ⟨rfl, rfl⟩ ⟨eMC, eMS⟩ dX13_parts_41 (fun Q h => dw_m_X13_far hD h) dw_y_X13_far dw_v_X13_far _ dw_w1594 (by decide) rfl (fun h => dw_E13 h) rfl ⟨tw_le hfr rfl, tw_le hlo rfl⟩ (Nat.le_of_ble_eq_true rfl) rfl (fun r11 => ?_)
        show dw_Rf (tw_cz z (a5.2.2.2.1 + 1) (a5.2.2.2.2 + 30)) b _ r11.2 _ [(3, .int v10), (4, .int a5.2.1), (2, .ref (b + q1)), (0, .ref (b + th)), (1, .ref (b + r0))] [.ref (b + r11.1)]
        refine e_astore (z := tw_cz z (a5.2.2.2.1 + 1) (a5.2.2.2.2 + 30)) X dX13_parts_44 (by decide) (L' := [(5, .ref (b + r11.1)), (3, .int v10), (4, .int a5.2.1), (2, .ref (b + q1)), (0, .ref (b + th)), (1, .ref (b + r0))]) rfl ?_
        refine e_iconst (z := tw_cz z (a5.2.2.2.1 + 1) (a5.2.2.2.2 + 30)) X dX13_parts_46 (v := (0 : Int32)) (by decide) ?_
        refine e_istore (z := tw_cz z (a5.2.2.2.1 + 1) (a5.2.2.2.2 + 30)) X dX13_parts_47 (by decide) (LL := fun v12 => [(6, .int v12), (5, .ref (b + r11.1)), (3, .int v10), (4, .int a5.2.1), (2, .ref (b + q1)), (0, .ref (b + th)), (1, .ref (b + r0))]) (fun _ => rfl) (fun v12 => ?_)
        refine e_lp (α := Int32 × Int32 × dw_S) (zJ := fun a13 => tw_cz z (a5.2.2.2.1 + 1) (a5.2.2.2.2 + 30)) (YJ := fun a13 => a13.2.2) (pcJ := 49) (LJ := fun a13 => [(6, .int a13.2.1), (5, .ref (b + r11.1)), (3, .int v10), (4, .int a13.1), (2, .ref (b + q1)), (0, .ref (b + th)), (1, .ref (b + r0))]) (stJ := fun a13 => []) (fun k14 hk14 a13 => ?_) n (a5.2.1, v12, r11.2)
        refine e_iload (z := tw_cz z (a5.2.2.2.1 + 1) (a5.2.2.2.2 + 30)) X dX13_parts_49 0 rfl ?_
        refine e_aload (z := tw_cz z (a5.2.2.2.1 + 1) (a5.2.2.2.2 + 30)) X dX13_parts_51 1 rfl ?_
        refine e_alen (k := r11.1) (kd := 20) (a := 0) (ty := .int) (x := (0, .inl (dw_i a13.2.2 r11.1))) (z := tw_cz z (a5.2.2.2.1 + 1) (a5.2.2.2.2 + 30)) X dX13_parts_53 (by decide) (fun h => dw_E20 h) rfl ?_
        refine e_icmp_ge (z := tw_cz z (a5.2.2.2.1 + 1) (a5.2.2.2.2 + 30)) X dX13_parts_54 (tgt := 86) (by decide) ?_ ?_
        ·
          exact dw_Rf.sub [3, 2, 4, 5, 6] rfl (hj8 (v10, a13.1, a13.2.2, (a5.2.2.2.1 + 1), (a5.2.2.2.2 + 30)))
        ·
          refine e_aload_n (z := tw_cz z (a5.2.2.2.1 + 1) (a5.2.2.2.2 + 30)) X dX13_parts_57 rfl 4 rfl ?_
          refine e_iload (z := tw_cz z (a5.2.2.2.1 + 1) (a5.2.2.2.2 + 30)) X dX13_parts_58 0 rfl ?_
          refine e_dup2 (z := tw_cz z (a5.2.2.2.1 + 1) (a5.2.2.2.2 + 30)) X dX13_parts_60 rfl rfl ?_
          refine e_zald (k := q1) (z := tw_cz z (a5.2.2.2.1 + 1) (a5.2.2.2.2 + 30)) X dX13_parts_61 ?_
          refine e_aload (z := tw_cz z (a5.2.2.2.1 + 1) (a5.2.2.2.2 + 30)) X dX13_parts_62 1 rfl ?_
          refine e_iload (z := tw_cz z (a5.2.2.2.1 + 1) (a5.2.2.2.2 + 30)) X dX13_parts_64 0 rfl ?_
          refine e_iald (k := r11.1) (z := tw_cz z (a5.2.2.2.1 + 1) (a5.2.2.2.2 + 30)) X dX13_parts_66 ?_
          refine e_sipush (z := tw_cz z (a5.2.2.2.1 + 1) (a5.2.2.2.2 + 30)) X dX13_parts_67 (v := (9999 : Int32)) (by decide) ?_
          refine e_jn (α := Int32) (zJ := fun a15 => tw_cz z (a5.2.2.2.1 + 1) (a5.2.2.2.2 + 30)) (YJ := fun a15 => a13.2.2) (pcJ := 78) (LJ := fun a15 => [(6, .int a13.2.1), (5, .ref (b + r11.1)), (3, .int v10), (4, .int a13.1), (2, .ref (b + q1)), (0, .ref (b + th)), (1, .ref (b + r0))]) (stJ := fun a15 => [.int a15, .int (dw_i a13.2.2 q1 (Int32.toNatClampNeg a13.2.1)), .int a13.2.1, .ref (b + q1)]) (fun a15 => ?_) (fun j16 hj16 => ?_)
          ·
            refine e_ior (z := tw_cz z (a5.2.2.2.1 + 1) (a5.2.2.2.2 + 30)) X dX13_parts_78 ?_
            refine e_zast (k := q1) (z := tw_cz z (a5.2.2.2.1 + 1) (a5.2.2.2.2 + 30)) X hb dX13_parts_79 (fun Y17 => ?_)
            refine e_iinc (z := tw_cz z (a5.2.2.2.1 + 1) (a5.2.2.2.2 + 30)) X dX13_parts_80 0 rfl (v := (1 : Int32)) (by decide) (by decide) (LL := fun v18 => [(6, .int v18), (5, .ref (b + r11.1)), (3, .int v10), (4, .int a13.1), (2, .ref (b + q1)), (0, .ref (b + th)), (1, .ref (b + r0))]) (fun _ => rfl) (fun v18 => ?_)
            refine e_goto (z := tw_cz z (a5.2.2.2.1 + 1) (a5.2.2.2.2 + 30)) X dX13_parts_83 (tgt := 49) (by decide) ?_
            exact hk14 (a13.1, v18, Y17)
          refine e_icmp_ge (z := tw_cz z (a5.2.2.2.1 + 1) (a5.2.2.2.2 + 30)) X dX13_parts_70 (tgt := 77) (by decide) ?_ ?_
          ·
            refine e_iconst (z := tw_cz z (a5.2.2.2.1 + 1) (a5.2.2.2.2 + 30)) X dX13_parts_77 (v := (0 : Int32)) (by decide) ?_
            exact hj16 (0 : Int32)
          ·
            refine e_iconst (z := tw_cz z (a5.2.2.2.1 + 1) (a5.2.2.2.2 + 30)) X dX13_parts_73 (v := (1 : Int32)) (by decide) ?_
            refine e_goto (z := tw_cz z (a5.2.2.2.1 + 1) (a5.2.2.2.2 + 30)) X dX13_parts_74 (tgt := 78) (by decide) ?_
            exact hj16 (1 : Int32)
      ·
        refine e_goto (z := tw_cz z a5.2.2.2.1 a5.2.2.2.2) X dX13_parts_31 (tgt := 86) (by decide) ?_
        exact hj8 (a5.1, a5.2.1, a5.2.2.1, a5.2.2.2.1, a5.2.2.2.2)
def dw_P_X13_told (n : Nat) (th : Nat) (x0 : Int32) (Y : dw_S) (Q : Int32 × dw_S → Prop) : Prop :=
pw_lt (0 : Int32) (fun (v1 : Int32) =>
tw_jn (fun (a2 : Int32) =>
tw_jn (fun (a4 : Int32) =>
tw_jn (fun (a6 : Int32 × dw_S × Nat × Nat) =>
tw_jn (fun (a8 : Int32) =>
tw_jn (fun (a10 : Int32 × dw_S × Nat × Nat) =>
pw_ck (a10.2.2.1 ≤ (dw_tc x0) ∧ a10.2.2.2 ≤ (dw_ts x0)) (Q (a10.1, a10.2.1))) (fun (j11 : (Int32 × dw_S × Nat × Nat) → Prop) =>
if ¬ x0 = 0 then (if ¬ x0 = (1 : Int32) then (if ¬ x0 = (3 : Int32) then (if ¬ x0 = (4 : Int32) then (if ¬ x0 = (7 : Int32) then (if ¬ x0 = (9 : Int32) then (if ¬ x0 = (10 : Int32) then (if ¬ x0 = (11 : Int32) then (if ¬ x0 = (12 : Int32) then (j11 (a8, a6.2.1, a6.2.2.1, a6.2.2.2))
else (pw_ck (dw_is a6.2.1 th 13) (
j11 ((dw_i a6.2.1 th 9), a6.2.1, a6.2.2.1, a6.2.2.2))))
else (pw_ck (dw_is a6.2.1 th 13) (
j11 ((dw_i a6.2.1 th 8), a6.2.1, a6.2.2.1, a6.2.2.2))))
else (pw_ck (dw_is a6.2.1 th 13) (
j11 ((dw_i a6.2.1 th 7), a6.2.1, a6.2.2.1, a6.2.2.2))))
else (pw_ck (dw_is a6.2.1 th 13 ∧ (a6.2.2.1 + 95) ≤ (dw_tc x0) ∧ (a6.2.2.2 + 8574) ≤ (dw_ts x0)) (
dw_P_X13_left n th a6.2.1 (fun (r12 : Nat × dw_S) =>
pw_ck (dw_is r12.2 th 13 ∧ ((a6.2.2.1 + 95) + 31) ≤ (dw_tc x0) ∧ ((a6.2.2.2 + 8574) + 930) ≤ (dw_ts x0)) (
dw_P_X13_parts n th r12.1 r12.2 (fun (r13 : Int32 × dw_S) =>
j11 (r13.1, r13.2, ((a6.2.2.1 + 95) + 31), ((a6.2.2.2 + 8574) + 930))))))))
else (pw_ck (dw_is a6.2.1 th 13 ∧ (a6.2.2.1 + 95) ≤ (dw_tc x0) ∧ (a6.2.2.2 + 8574) ≤ (dw_ts x0)) (
dw_P_X13_left n th a6.2.1 (fun (r14 : Nat × dw_S) =>
pw_ck ((a6.2.2.1 + 95) ≤ (dw_tc x0) ∧ (a6.2.2.2 + 8574) ≤ (dw_ts x0)) (
dw_P_X13_many n r14.1 r14.2 (fun (r15 : Int32) =>
j11 (r15, r14.2, (a6.2.2.1 + 95), (a6.2.2.2 + 8574))))))))
else (pw_ck (dw_is a6.2.1 th 13) (
pw_nn (dw_r a6.2.1 th 6) (fun (r16 : Nat) =>
pw_ck (dw_is a6.2.1 r16 24) (
j11 ((Int32.ofNat (dw_l a6.2.1 r16)), a6.2.1, a6.2.2.1, a6.2.2.2))))))
else (pw_ck (dw_is a6.2.1 th 13) (
pw_nn (dw_r a6.2.1 th 5) (fun (r17 : Nat) =>
pw_ck (dw_is a6.2.1 r17 26) (
j11 ((Int32.ofNat (dw_l a6.2.1 r17)), a6.2.1, a6.2.2.1, a6.2.2.2))))))
else (pw_ck (dw_is a6.2.1 th 13) (
j11 ((dw_i a6.2.1 th 1), a6.2.1, a6.2.2.1, a6.2.2.2))))
else (pw_ck (dw_is a6.2.1 th 13) (
j11 ((dw_i a6.2.1 th 0), a6.2.1, a6.2.2.1, a6.2.2.2))))) (fun (j9 : (Int32) → Prop) =>
if ¬ x0 = (8 : Int32) then (j9 a6.1)
else (pw_ck (dw_is a6.2.1 th 13) (
pw_nn (dw_r a6.2.1 th 3) (fun (r18 : Nat) =>
pw_ck (a6.2.2.1 ≤ (dw_tc x0) ∧ a6.2.2.2 ≤ (dw_ts x0)) (
dw_P_X13_many n r18 a6.2.1 (fun (r19 : Int32) =>
pw_lt r19 (fun (v20 : Int32) =>
j9 v20)))))))) (fun (j7 : (Int32 × dw_S × Nat × Nat) → Prop) =>
if ¬ x0 = (6 : Int32) then (j7 (a4, Y, 0, 0))
else (pw_ck (dw_is Y th 13 ∧ 94 ≤ (dw_tc x0) ∧ 8544 ≤ (dw_ts x0)) (
dw_P_X13_reasons n th Y (fun (r21 : Nat × dw_S) =>
pw_ck (dw_is r21.2 r21.1 20) (
pw_lt (Int32.ofNat (dw_l r21.2 r21.1)) (fun (v22 : Int32) =>
pw_lt (0 : Int32) (fun (v23 : Int32) =>
pw_lp (fun (k25 : (Int32 × Int32) → Prop) (a24 : Int32 × Int32) =>
if v22 ≤ a24.2 then (j7 (a24.1, r21.2, 94, 8544))
else (pw_ck (dw_is r21.2 r21.1 20 ∧ tw_ok a24.2 (dw_l r21.2 r21.1) = true) (
pw_lt (dw_i r21.2 r21.1 (Int32.toNatClampNeg a24.2)) (fun (v26 : Int32) =>
tw_jn (fun (a27 : Int32) =>
pw_lt (a24.2 + (1 : Int32)) (fun (v29 : Int32) =>
k25 (a27, v29))) (fun (j28 : (Int32) → Prop) =>
if ¬ v26 = 0 then (j28 a24.1)
else (pw_lt (a24.1 + (1 : Int32)) (fun (v30 : Int32) =>
j28 v30))))))) n (a4, v23))))))))) (fun (j5 : (Int32) → Prop) =>
if ¬ x0 = (5 : Int32) then (j5 a2)
else (pw_ck (dw_is Y th 13) (
pw_nn (dw_r Y th 6) (fun (r31 : Nat) =>
pw_ck (dw_is Y r31 24) (
pw_lt (Int32.ofNat (dw_l Y r31)) (fun (v32 : Int32) =>
pw_lt (0 : Int32) (fun (v33 : Int32) =>
pw_lp (fun (k35 : (Int32 × Int32) → Prop) (a34 : Int32 × Int32) =>
if v32 ≤ a34.2 then (j5 a34.1)
else (pw_ck (dw_is Y r31 24 ∧ tw_ok a34.2 (dw_l Y r31) = true) (
pw_nn (dw_r Y r31 (Int32.toNatClampNeg a34.2)) (fun (r36 : Nat) =>
pw_ck (dw_is Y r36 12) (
tw_jn (fun (a37 : Int32) =>
pw_lt (a34.2 + (1 : Int32)) (fun (v39 : Int32) =>
k35 (a37, v39))) (fun (j38 : (Int32) → Prop) =>
if (dw_i Y r36 2) = 0 then (j38 a34.1)
else (pw_lt (a34.1 + (1 : Int32)) (fun (v40 : Int32) =>
j38 v40)))))))) n (a2, v33))))))))) (fun (j3 : (Int32) → Prop) =>
if ¬ x0 = (2 : Int32) then (j3 v1)
else (pw_ck (dw_is Y th 13) (
pw_nn (dw_r Y th 4) (fun (r41 : Nat) =>
pw_ck (dw_is Y r41 20) (
pw_lt (Int32.ofNat (dw_l Y r41)) (fun (v42 : Int32) =>
pw_lt (0 : Int32) (fun (v43 : Int32) =>
pw_lp (fun (k45 : (Int32 × Int32) → Prop) (a44 : Int32 × Int32) =>
if v42 ≤ a44.2 then (j3 a44.1)
else (pw_ck (dw_is Y r41 20 ∧ tw_ok a44.2 (dw_l Y r41) = true) (
pw_lt (dw_i Y r41 (Int32.toNatClampNeg a44.2)) (fun (v46 : Int32) =>
tw_jn (fun (a47 : Int32) =>
pw_lt (a44.2 + (1 : Int32)) (fun (v49 : Int32) =>
k45 (a47, v49))) (fun (j48 : (Int32) → Prop) =>
if v46 < 0 then (j48 a44.1)
else (pw_lt (a44.1 + (1 : Int32)) (fun (v50 : Int32) =>
j48 v50))))))) n (v1, v43)))))))))
theorem dw_y_X13_told : tw_My yX13_told cX13_told 7 (some .int) 1 := ⟨List.mem_of_getElem? dw_w1589, List.mem_of_getElem? dw_w50, by decide +kernel, by decide +kernel, by decide +kernel⟩
theorem dw_v_X13_told : dw_Mv yX13_told "TreasureWalkLaw$Island" := ⟨List.mem_of_getElem? dw_w1587, List.mem_of_getElem? dw_w1588⟩
set_option maxRecDepth 100000 in
set_option maxHeartbeats 4000000 in
theorem dw_m_X13_told {l : Launch} {b : Nat} {D : tw_G} {C : Nat → ClassId} {S : Nat → Nat} (hD : D.2 = []) {n : Nat} {th : Nat} {x0 : Int32} {Y : dw_S} {Q : Int32 × dw_S → Prop}  (h : dw_P_X13_told n th x0 Y Q) : dw_Met l b D C S yX13_told cX13_told 7 (some .int) ({ frames := 11, cells := (dw_tc x0), slots := (dw_ts x0), locals := 293 } : Room) [.ref (b + th), .int x0] Y (fun r => some (.int r.1)) (fun r => r.2) Q := by
  refine dw_metOf (dw_P_X13_told n th x0 Y Q) h _ _ Q (by decide +kernel) (Nat.le_of_ble_eq_true rfl) ?_
  intro z el eB eD eC eS eR X hA hnm hret hQ
  subst el eD eC eS
  have hb : tw_zB z ≤ b := Nat.le_of_eq eB
  have hA : dw_AK (tw_zB z) (tw_zS z) (tw_zs z) := by rw [eB]; exact hA
  have hfr : (tw_zR z).frames = 11 := by rw [eR]
  have hlo : (tw_zR z).locals = 293 := by rw [eR]
  have eMC : (tw_zR z).cells = (dw_tc x0) := by rw [eR]
  have eMS : (tw_zR z).slots = (dw_ts x0) := by rw [eR]
  have X : tw_X z cX13_told "TreasureWalkLaw$Island" 7 := X
  show dw_Rf (tw_cz z 0 0) b _ Y 0 [(0, .ref (b + th)), (1, .int x0)] []
  unfold dw_P_X13_told
  refine e_iconst (z := tw_cz z 0 0) X dX13_told_0 (v := (0 : Int32)) (by decide) ?_
  refine e_istore_n (z := tw_cz z 0 0) X dX13_told_1 rfl (by decide) (LL := fun v1 => [(2, .int v1), (0, .ref (b + th)), (1, .int x0)]) (fun _ => rfl) (fun v1 => ?_)
  refine e_iload_n (z := tw_cz z 0 0) X dX13_told_2 rfl 2 rfl ?_
  refine e_iconst (z := tw_cz z 0 0) X dX13_told_3 (v := (2 : Int32)) (by decide) ?_
  refine e_jn (α := Int32) (zJ := fun a2 => tw_cz z 0 0) (YJ := fun a2 => Y) (pcJ := 46) (LJ := fun a2 => [(2, .int a2), (0, .ref (b + th)), (1, .int x0)]) (stJ := fun a2 => []) (fun a2 => ?_) (fun j3 hj3 => ?_)
  ·
    refine e_iload_n (z := tw_cz z 0 0) X dX13_told_46 rfl 2 rfl ?_
    refine e_iconst (z := tw_cz z 0 0) X dX13_told_47 (v := (5 : Int32)) (by decide) ?_
    refine e_jn (α := Int32) (zJ := fun a4 => tw_cz z 0 0) (YJ := fun a4 => Y) (pcJ := 93) (LJ := fun a4 => [(2, .int a4), (0, .ref (b + th)), (1, .int x0)]) (stJ := fun a4 => []) (fun a4 => ?_) (fun j5 hj5 => ?_)
    ·
      refine e_iload_n (z := tw_cz z 0 0) X dX13_told_93 rfl 2 rfl ?_
      refine e_bipush (z := tw_cz z 0 0) X dX13_told_94 (v := (6 : Int32)) (by decide) ?_
      refine e_jn (α := Int32 × dw_S × Nat × Nat) (zJ := fun a6 => tw_cz z a6.2.2.1 a6.2.2.2) (YJ := fun a6 => a6.2.1) (pcJ := 138) (LJ := fun a6 => [(2, .int a6.1), (0, .ref (b + th)), (1, .int x0)]) (stJ := fun a6 => []) (fun a6 => ?_) (fun j7 hj7 => ?_)
      ·
        refine e_iload_n (z := tw_cz z a6.2.2.1 a6.2.2.2) X dX13_told_138 rfl 2 rfl ?_
        refine e_bipush (z := tw_cz z a6.2.2.1 a6.2.2.2) X dX13_told_139 (v := (8 : Int32)) (by decide) ?_
        refine e_jn (α := Int32) (zJ := fun a8 => tw_cz z a6.2.2.1 a6.2.2.2) (YJ := fun a8 => a6.2.1) (pcJ := 152) (LJ := fun a8 => [(2, .int a8), (0, .ref (b + th)), (1, .int x0)]) (stJ := fun a8 => []) (fun a8 => ?_) (fun j9 hj9 => ?_)
        ·
          refine e_iload_n (z := tw_cz z a6.2.2.1 a6.2.2.2) X dX13_told_152 rfl 2 rfl ?_
          refine e_jn (α := Int32 × dw_S × Nat × Nat) (zJ := fun a10 => tw_cz z a10.2.2.1 a10.2.2.2) (YJ := fun a10 => a10.2.1) (pcJ := 274) (LJ := fun a10 => []) (stJ := fun a10 => [.int a10.1]) (fun a10 => ?_) (fun j11 hj11 => ?_)
          ·
            exact e_iret (z := z) X eB dX13_told_274 hret ⟨eMC, eMS⟩ hQ rfl rfl
          refine e_if_ne (z := tw_cz z a6.2.2.1 a6.2.2.2) X dX13_told_153 (tgt := 163) (by decide) ?_ ?_
          ·
            refine e_iload_n (z := tw_cz z a6.2.2.1 a6.2.2.2) X dX13_told_163 rfl 2 rfl ?_
            refine e_iconst (z := tw_cz z a6.2.2.1 a6.2.2.2) X dX13_told_164 (v := (1 : Int32)) (by decide) ?_
            refine e_icmp_ne (z := tw_cz z a6.2.2.1 a6.2.2.2) X dX13_told_165 (tgt := 175) (by decide) ?_ ?_
            ·
              refine e_iload_n (z := tw_cz z a6.2.2.1 a6.2.2.2) X dX13_told_175 rfl 2 rfl ?_
              refine e_iconst (z := tw_cz z a6.2.2.1 a6.2.2.2) X dX13_told_176 (v := (3 : Int32)) (by decide) ?_
              refine e_icmp_ne (z := tw_cz z a6.2.2.1 a6.2.2.2) X dX13_told_177 (tgt := 188) (by decide) ?_ ?_
              ·
                refine e_iload_n (z := tw_cz z a6.2.2.1 a6.2.2.2) X dX13_told_188 rfl 2 rfl ?_
                refine e_iconst (z := tw_cz z a6.2.2.1 a6.2.2.2) X dX13_told_189 (v := (4 : Int32)) (by decide) ?_
                refine e_icmp_ne (z := tw_cz z a6.2.2.1 a6.2.2.2) X dX13_told_190 (tgt := 201) (by decide) ?_ ?_
                ·
                  refine e_iload_n (z := tw_cz z a6.2.2.1 a6.2.2.2) X dX13_told_201 rfl 2 rfl ?_
                  refine e_bipush (z := tw_cz z a6.2.2.1 a6.2.2.2) X dX13_told_202 (v := (7 : Int32)) (by decide) ?_
                  refine e_icmp_ne (z := tw_cz z a6.2.2.1 a6.2.2.2) X dX13_told_204 (tgt := 217) (by decide) ?_ ?_
                  ·
                    refine e_iload_n (z := tw_cz z a6.2.2.1 a6.2.2.2) X dX13_told_217 rfl 2 rfl ?_
                    refine e_bipush (z := tw_cz z a6.2.2.1 a6.2.2.2) X dX13_told_218 (v := (9 : Int32)) (by decide) ?_
                    refine e_icmp_ne (z := tw_cz z a6.2.2.1 a6.2.2.2) X dX13_told_220 (tgt := 234) (by decide) ?_ ?_
                    ·
                      refine e_iload_n (z := tw_cz z a6.2.2.1 a6.2.2.2) X dX13_told_234 rfl 2 rfl ?_
                      refine e_bipush (z := tw_cz z a6.2.2.1 a6.2.2.2) X dX13_told_235 (v := (10 : Int32)) (by decide) ?_
                      refine e_icmp_ne (z := tw_cz z a6.2.2.1 a6.2.2.2) X dX13_told_237 (tgt := 247) (by decide) ?_ ?_
                      ·
                        refine e_iload_n (z := tw_cz z a6.2.2.1 a6.2.2.2) X dX13_told_247 rfl 2 rfl ?_
                        refine e_bipush (z := tw_cz z a6.2.2.1 a6.2.2.2) X dX13_told_248 (v := (11 : Int32)) (by decide) ?_
                        refine e_icmp_ne (z := tw_cz z a6.2.2.1 a6.2.2.2) X dX13_told_250 (tgt := 260) (by decide) ?_ ?_
                        ·
                          refine e_iload_n (z := tw_cz z a6.2.2.1 a6.2.2.2) X dX13_told_260 rfl 2 rfl ?_
                          refine e_bipush (z := tw_cz z a6.2.2.1 a6.2.2.2) X dX13_told_261 (v := (12 : Int32)) (by decide) ?_
                          refine e_icmp_ne (z := tw_cz z a6.2.2.1 a6.2.2.2) X dX13_told_263 (tgt := 273) (by decide) ?_ ?_
                          ·
                            refine e_iload_n (z := tw_cz z a6.2.2.1 a6.2.2.2) X dX13_told_273 rfl 0 rfl ?_
                            exact dw_Rf.sub [] rfl (hj11 (a8, a6.2.1, a6.2.2.1, a6.2.2.2))
                          ·
                            refine e_aload_n (z := tw_cz z a6.2.2.1 a6.2.2.2) X dX13_told_266 rfl 1 rfl ?_
                            refine e_getf (ci := 13) (T := TX13) (f := 9) (k := th) (z := tw_cz z a6.2.2.1 a6.2.2.2) X dX13_told_267 (Or.inl ⟨_, dw_w608⟩) dw_in13 rfl (by decide) (by decide) (fun h => dw_E13 h) rfl ?_
                            refine e_goto (z := tw_cz z a6.2.2.1 a6.2.2.2) X dX13_told_270 (tgt := 274) (by decide) ?_
                            exact dw_Rf.sub [] rfl (hj11 ((dw_i a6.2.1 th 9), a6.2.1, a6.2.2.1, a6.2.2.2))
                        ·
                          refine e_aload_n (z := tw_cz z a6.2.2.1 a6.2.2.2) X dX13_told_253 rfl 1 rfl ?_
                          refine e_getf (ci := 13) (T := TX13) (f := 8) (k := th) (z := tw_cz z a6.2.2.1 a6.2.2.2) X dX13_told_254 (Or.inl ⟨_, dw_w606⟩) dw_in13 rfl (by decide) (by decide) (fun h => dw_E13 h) rfl ?_
                          refine e_goto (z := tw_cz z a6.2.2.1 a6.2.2.2) X dX13_told_257 (tgt := 274) (by decide) ?_
                          exact dw_Rf.sub [] rfl (hj11 ((dw_i a6.2.1 th 8), a6.2.1, a6.2.2.1, a6.2.2.2))
                      ·
                        refine e_aload_n (z := tw_cz z a6.2.2.1 a6.2.2.2) X dX13_told_240 rfl 1 rfl ?_
                        refine e_getf (ci := 13) (T := TX13) (f := 7) (k := th) (z := tw_cz z a6.2.2.1 a6.2.2.2) X dX13_told_241 (Or.inl ⟨_, dw_w604⟩) dw_in13 rfl (by decide) (by decide) (fun h => dw_E13 h) rfl ?_
                        refine e_goto (z := tw_cz z a6.2.2.1 a6.2.2.2) X dX13_told_244 (tgt := 274) (by decide) ?_
                        exact dw_Rf.sub [] rfl (hj11 ((dw_i a6.2.1 th 7), a6.2.1, a6.2.2.1, a6.2.2.2))
                    ·
                      refine e_aload_n (z := tw_cz z a6.2.2.1 a6.2.2.2) X dX13_told_223 rfl 1 rfl ?_
                      refine e_aload_n (z := tw_cz z a6.2.2.1 a6.2.2.2) X dX13_told_224 rfl 1 rfl ?_
                      refine e_callV (k := th) (ci := 13) (Cn := "TreasureWalkLaw$Island") (T := TX13) (N := 13) (c := a6.2.2.1) (s := a6.2.2.2) (As := []) (z := tw_cz z a6.2.2.1 a6.2.2.2) X hA hb hD ⟨rfl, rfl⟩ ⟨eMC, eMS⟩ dX13_told_225 (fun Q h => dw_m_X13_left hD h) dw_y_X13_left dw_v_X13_left _ dw_w731 (by decide) rfl (fun h => dw_E13 h) rfl ⟨tw_le hfr rfl, tw_le hlo rfl⟩ (Nat.le_of_ble_eq_true rfl) rfl (fun r12 => ?_)
                      show dw_Rf (tw_cz z (a6.2.2.1 + 95) (a6.2.2.2 + 8574)) b _ r12.2 _ [(2, .int a8), (0, .ref (b + th)), (1, .int x0)] [.ref (b + r12.1), .ref (b + th)]
                      refine e_callV (k := th) (ci := 13) (Cn := "TreasureWalkLaw$Island") (T := TX13) (N := 13) (c := (a6.2.2.1 + 95)) (s := (a6.2.2.2 + 8574)) (As := [.ref (b + r12.1)]) (z := tw_cz z (a6.2.2.1 + 95) (a6.2.2.2 + 8574)) X hA hb hD ⟨rfl, rfl⟩ ⟨eMC, eMS⟩ dX13_told_228 (fun Q h => dw_m_X13_parts hD h) dw_y_X13_parts dw_v_X13_parts _ dw_w1590 (by decide) rfl (fun h => dw_E13 h) rfl ⟨tw_le hfr rfl, tw_le hlo rfl⟩ (Nat.le_of_ble_eq_true rfl) rfl (fun r13 => ?_)
                      show dw_Rf (tw_cz z ((a6.2.2.1 + 95) + 31) ((a6.2.2.2 + 8574) + 930)) b _ r13.2 _ [(2, .int a8), (0, .ref (b + th)), (1, .int x0)] [.int r13.1]
                      refine e_goto (z := tw_cz z ((a6.2.2.1 + 95) + 31) ((a6.2.2.2 + 8574) + 930)) X dX13_told_231 (tgt := 274) (by decide) ?_
                      exact dw_Rf.sub [] rfl (hj11 (r13.1, r13.2, ((a6.2.2.1 + 95) + 31), ((a6.2.2.2 + 8574) + 930)))
                  ·
                    refine e_aload_n (z := tw_cz z a6.2.2.1 a6.2.2.2) X dX13_told_207 rfl 1 rfl ?_
                    refine e_callV (k := th) (ci := 13) (Cn := "TreasureWalkLaw$Island") (T := TX13) (N := 13) (c := a6.2.2.1) (s := a6.2.2.2) (As := []) (z := tw_cz z a6.2.2.1 a6.2.2.2) X hA hb hD ⟨rfl, rfl⟩ ⟨eMC, eMS⟩ dX13_told_208 (fun Q h => dw_m_X13_left hD h) dw_y_X13_left dw_v_X13_left _ dw_w731 (by decide) rfl (fun h => dw_E13 h) rfl ⟨tw_le hfr rfl, tw_le hlo rfl⟩ (Nat.le_of_ble_eq_true rfl) rfl (fun r14 => ?_)
                    show dw_Rf (tw_cz z (a6.2.2.1 + 95) (a6.2.2.2 + 8574)) b _ r14.2 _ [(2, .int a8), (0, .ref (b + th)), (1, .int x0)] [.ref (b + r14.1)]
                    refine e_callS (c := (a6.2.2.1 + 95)) (s := (a6.2.2.2 + 8574)) (As := [.ref (b + r14.1)]) (z := tw_cz z (a6.2.2.1 + 95) (a6.2.2.2 + 8574)) X hA hb hD ⟨rfl, rfl⟩ ⟨eMC, eMS⟩ dX13_told_211 (fun Q h => dw_m_X13_many hD h) dw_y_X13_many dw_v_X13_many _ dw_w732 rfl ⟨tw_le hfr rfl, tw_le hlo rfl⟩ (Nat.le_of_ble_eq_true rfl) rfl (fun r15 => ?_)
                    show dw_Rf (tw_cz z (a6.2.2.1 + 95) (a6.2.2.2 + 8574)) b _ r14.2 _ [(2, .int a8), (0, .ref (b + th)), (1, .int x0)] [.int r15]
                    refine e_goto (z := tw_cz z (a6.2.2.1 + 95) (a6.2.2.2 + 8574)) X dX13_told_214 (tgt := 274) (by decide) ?_
                    exact dw_Rf.sub [] rfl (hj11 (r15, r14.2, (a6.2.2.1 + 95), (a6.2.2.2 + 8574)))
                ·
                  refine e_aload_n (z := tw_cz z a6.2.2.1 a6.2.2.2) X dX13_told_193 rfl 1 rfl ?_
                  refine e_getf (ci := 13) (T := TX13) (f := 6) (k := th) (z := tw_cz z a6.2.2.1 a6.2.2.2) X dX13_told_194 (Or.inl ⟨_, dw_w602⟩) dw_in13 rfl (by decide) (by decide) (fun h => dw_E13 h) rfl ?_
                  refine e_nn (r := (dw_r a6.2.1 th 6)) (LL := fun _ => [(2, .int a8), (0, .ref (b + th)), (1, .int x0)]) (SS := fun q => dw_v b q :: []) (fun r16 => ?_)
                  show dw_Rf (tw_cz z a6.2.2.1 a6.2.2.2) b _ a6.2.1 _ [(2, .int a8), (0, .ref (b + th)), (1, .int x0)] [.ref (b + r16)]
                  refine e_alen (k := r16) (kd := 24) (a := 7) (ty := .object "TreasureWalkLaw$Clue") (x := (0, .inr (.inr (.inr (.inr (fun j => Option.map (fun a => b + a) (dw_r a6.2.1 r16 j))))))) (z := tw_cz z a6.2.2.1 a6.2.2.2) X dX13_told_197 (by decide) (fun h => dw_E24 h) rfl ?_
                  refine e_goto (z := tw_cz z a6.2.2.1 a6.2.2.2) X dX13_told_198 (tgt := 274) (by decide) ?_
                  exact dw_Rf.sub [] rfl (hj11 ((Int32.ofNat (dw_l a6.2.1 r16)), a6.2.1, a6.2.2.1, a6.2.2.2))
              ·
                refine e_aload_n (z := tw_cz z a6.2.2.1 a6.2.2.2) X dX13_told_180 rfl 1 rfl ?_
                refine e_getf (ci := 13) (T := TX13) (f := 5) (k := th) (z := tw_cz z a6.2.2.1 a6.2.2.2) X dX13_told_181 (Or.inl ⟨_, dw_w600⟩) dw_in13 rfl (by decide) (by decide) (fun h => dw_E13 h) rfl ?_
                refine e_nn (r := (dw_r a6.2.1 th 5)) (LL := fun _ => [(2, .int a8), (0, .ref (b + th)), (1, .int x0)]) (SS := fun q => dw_v b q :: []) (fun r17 => ?_)
                show dw_Rf (tw_cz z a6.2.2.1 a6.2.2.2) b _ a6.2.1 _ [(2, .int a8), (0, .ref (b + th)), (1, .int x0)] [.ref (b + r17)]
                refine e_alen (k := r17) (kd := 26) (a := 4) (ty := .array .int) (x := (0, .inr (.inr (.inr (.inr (fun j => Option.map (fun a => b + a) (dw_r a6.2.1 r17 j))))))) (z := tw_cz z a6.2.2.1 a6.2.2.2) X dX13_told_184 (by decide) (fun h => dw_E26 h) rfl ?_
                refine e_goto (z := tw_cz z a6.2.2.1 a6.2.2.2) X dX13_told_185 (tgt := 274) (by decide) ?_
                exact dw_Rf.sub [] rfl (hj11 ((Int32.ofNat (dw_l a6.2.1 r17)), a6.2.1, a6.2.2.1, a6.2.2.2))
            ·
              refine e_aload_n (z := tw_cz z a6.2.2.1 a6.2.2.2) X dX13_told_168 rfl 1 rfl ?_
              refine e_getf (ci := 13) (T := TX13) (f := 1) (k := th) (z := tw_cz z a6.2.2.1 a6.2.2.2) X dX13_told_169 (Or.inl ⟨_, dw_w592⟩) dw_in13 rfl (by decide) (by decide) (fun h => dw_E13 h) rfl ?_
              refine e_goto (z := tw_cz z a6.2.2.1 a6.2.2.2) X dX13_told_172 (tgt := 274) (by decide) ?_
              exact dw_Rf.sub [] rfl (hj11 ((dw_i a6.2.1 th 1), a6.2.1, a6.2.2.1, a6.2.2.2))
          ·
            refine e_aload_n (z := tw_cz z a6.2.2.1 a6.2.2.2) X dX13_told_156 rfl 1 rfl ?_
            refine e_getf (ci := 13) (T := TX13) (f := 0) (k := th) (z := tw_cz z a6.2.2.1 a6.2.2.2) X dX13_told_157 (Or.inl ⟨_, dw_w590⟩) dw_in13 rfl (by decide) (by decide) (fun h => dw_E13 h) rfl ?_
            refine e_goto (z := tw_cz z a6.2.2.1 a6.2.2.2) X dX13_told_160 (tgt := 274) (by decide) ?_
            exact dw_Rf.sub [] rfl (hj11 ((dw_i a6.2.1 th 0), a6.2.1, a6.2.2.1, a6.2.2.2))
        refine e_icmp_ne (z := tw_cz z a6.2.2.1 a6.2.2.2) X dX13_told_141 (tgt := 152) (by decide) ?_ ?_
        ·
          exact hj9 a6.1
        ·
          refine e_aload_n (z := tw_cz z a6.2.2.1 a6.2.2.2) X dX13_told_144 rfl 1 rfl ?_
          refine e_getf (ci := 13) (T := TX13) (f := 3) (k := th) (z := tw_cz z a6.2.2.1 a6.2.2.2) X dX13_told_145 (Or.inl ⟨_, dw_w596⟩) dw_in13 rfl (by decide) (by decide) (fun h => dw_E13 h) rfl ?_
          refine e_nn (r := (dw_r a6.2.1 th 3)) (LL := fun _ => [(2, .int a6.1), (0, .ref (b + th)), (1, .int x0)]) (SS := fun q => dw_v b q :: []) (fun r18 => ?_)
          show dw_Rf (tw_cz z a6.2.2.1 a6.2.2.2) b _ a6.2.1 _ [(2, .int a6.1), (0, .ref (b + th)), (1, .int x0)] [.ref (b + r18)]
          refine e_callS (c := a6.2.2.1) (s := a6.2.2.2) (As := [.ref (b + r18)]) (z := tw_cz z a6.2.2.1 a6.2.2.2) X hA hb hD ⟨rfl, rfl⟩ ⟨eMC, eMS⟩ dX13_told_148 (fun Q h => dw_m_X13_many hD h) dw_y_X13_many dw_v_X13_many _ dw_w732 rfl ⟨tw_le hfr rfl, tw_le hlo rfl⟩ (Nat.le_of_ble_eq_true rfl) rfl (fun r19 => ?_)
          show dw_Rf (tw_cz z a6.2.2.1 a6.2.2.2) b _ a6.2.1 _ [(2, .int a6.1), (0, .ref (b + th)), (1, .int x0)] [.int r19]
          refine e_istore_n (z := tw_cz z a6.2.2.1 a6.2.2.2) X dX13_told_151 rfl (by decide) (LL := fun v20 => [(2, .int v20), (0, .ref (b + th)), (1, .int x0)]) (fun _ => rfl) (fun v20 => ?_)
          exact hj9 v20
      refine e_icmp_ne (z := tw_cz z 0 0) X dX13_told_96 (tgt := 138) (by decide) ?_ ?_
      ·
        exact hj7 (a4, Y, 0, 0)
      ·
        refine e_aload_n (z := tw_cz z 0 0) X dX13_told_99 rfl 1 rfl ?_
        refine e_callV (k := th) (ci := 13) (Cn := "TreasureWalkLaw$Island") (T := TX13) (N := 13) (c := 0) (s := 0) (As := []) (z := tw_cz z 0 0) X hA hb hD ⟨rfl, rfl⟩ ⟨eMC, eMS⟩ dX13_told_100 (fun Q h => dw_m_X13_reasons hD h) dw_y_X13_reasons dw_v_X13_reasons _ dw_w686 (by decide) rfl (fun h => dw_E13 h) rfl ⟨tw_le hfr rfl, tw_le hlo rfl⟩ (Nat.le_of_ble_eq_true rfl) rfl (fun r21 => ?_)
        show dw_Rf (tw_cz z 94 8544) b _ r21.2 _ [(2, .int a4), (0, .ref (b + th)), (1, .int x0)] [.ref (b + r21.1)]
        refine e_astore_n (z := tw_cz z 94 8544) X dX13_told_103 rfl (by decide) (L' := [(3, .ref (b + r21.1)), (2, .int a4), (0, .ref (b + th)), (1, .int x0)]) rfl ?_
        refine e_aload_n (z := tw_cz z 94 8544) X dX13_told_104 rfl 0 rfl ?_
        refine e_alen (k := r21.1) (kd := 20) (a := 0) (ty := .int) (x := (0, .inl (dw_i r21.2 r21.1))) (z := tw_cz z 94 8544) X dX13_told_105 (by decide) (fun h => dw_E20 h) rfl ?_
        refine e_istore (z := tw_cz z 94 8544) X dX13_told_106 (by decide) (LL := fun v22 => [(4, .int v22), (3, .ref (b + r21.1)), (2, .int a4), (0, .ref (b + th)), (1, .int x0)]) (fun _ => rfl) (fun v22 => ?_)
        refine e_iconst (z := tw_cz z 94 8544) X dX13_told_108 (v := (0 : Int32)) (by decide) ?_
        refine e_istore (z := tw_cz z 94 8544) X dX13_told_109 (by decide) (LL := fun v23 => [(5, .int v23), (4, .int v22), (3, .ref (b + r21.1)), (2, .int a4), (0, .ref (b + th)), (1, .int x0)]) (fun _ => rfl) (fun v23 => ?_)
        refine e_lp (α := Int32 × Int32) (zJ := fun a24 => tw_cz z 94 8544) (YJ := fun a24 => r21.2) (pcJ := 111) (LJ := fun a24 => [(5, .int a24.2), (4, .int v22), (3, .ref (b + r21.1)), (2, .int a24.1), (0, .ref (b + th)), (1, .int x0)]) (stJ := fun a24 => []) (fun k25 hk25 a24 => ?_) n (a4, v23)
        refine e_iload (z := tw_cz z 94 8544) X dX13_told_111 0 rfl ?_
        refine e_iload (z := tw_cz z 94 8544) X dX13_told_113 1 rfl ?_
        refine e_icmp_ge (z := tw_cz z 94 8544) X dX13_told_115 (tgt := 138) (by decide) ?_ ?_
        ·
          exact dw_Rf.sub [3, 4, 5] rfl (hj7 (a24.1, r21.2, 94, 8544))
        ·
          refine e_aload_n (z := tw_cz z 94 8544) X dX13_told_118 rfl 2 rfl ?_
          refine e_iload (z := tw_cz z 94 8544) X dX13_told_119 0 rfl ?_
          refine e_iald (k := r21.1) (z := tw_cz z 94 8544) X dX13_told_121 ?_
          refine e_istore (z := tw_cz z 94 8544) X dX13_told_122 (by decide) (LL := fun v26 => [(6, .int v26), (5, .int a24.2), (4, .int v22), (3, .ref (b + r21.1)), (2, .int a24.1), (0, .ref (b + th)), (1, .int x0)]) (fun _ => rfl) (fun v26 => ?_)
          refine e_iload (z := tw_cz z 94 8544) X dX13_told_124 0 rfl ?_
          refine e_jn (α := Int32) (zJ := fun a27 => tw_cz z 94 8544) (YJ := fun a27 => r21.2) (pcJ := 132) (LJ := fun a27 => [(5, .int a24.2), (4, .int v22), (3, .ref (b + r21.1)), (2, .int a27), (0, .ref (b + th)), (1, .int x0)]) (stJ := fun a27 => []) (fun a27 => ?_) (fun j28 hj28 => ?_)
          ·
            refine e_iinc (z := tw_cz z 94 8544) X dX13_told_132 0 rfl (v := (1 : Int32)) (by decide) (by decide) (LL := fun v29 => [(5, .int v29), (4, .int v22), (3, .ref (b + r21.1)), (2, .int a27), (0, .ref (b + th)), (1, .int x0)]) (fun _ => rfl) (fun v29 => ?_)
            refine e_goto (z := tw_cz z 94 8544) X dX13_told_135 (tgt := 111) (by decide) ?_
            exact hk25 (a27, v29)
          refine e_if_ne (z := tw_cz z 94 8544) X dX13_told_126 (tgt := 132) (by decide) ?_ ?_
          ·
            exact dw_Rf.sub [1, 2, 3, 4, 5, 6] rfl (hj28 a24.1)
          ·
            refine e_iinc (z := tw_cz z 94 8544) X dX13_told_129 4 rfl (v := (1 : Int32)) (by decide) (by decide) (LL := fun v30 => [(2, .int v30), (6, .int v26), (5, .int a24.2), (4, .int v22), (3, .ref (b + r21.1)), (0, .ref (b + th)), (1, .int x0)]) (fun _ => rfl) (fun v30 => ?_)
            exact dw_Rf.sub [2, 3, 4, 0, 5, 6] rfl (hj28 v30)
    refine e_icmp_ne (z := tw_cz z 0 0) X dX13_told_48 (tgt := 93) (by decide) ?_ ?_
    ·
      exact hj5 a2
    ·
      refine e_aload_n (z := tw_cz z 0 0) X dX13_told_51 rfl 1 rfl ?_
      refine e_getf (ci := 13) (T := TX13) (f := 6) (k := th) (z := tw_cz z 0 0) X dX13_told_52 (Or.inl ⟨_, dw_w602⟩) dw_in13 rfl (by decide) (by decide) (fun h => dw_E13 h) rfl ?_
      refine e_nn (r := (dw_r Y th 6)) (LL := fun _ => [(2, .int a2), (0, .ref (b + th)), (1, .int x0)]) (SS := fun q => dw_v b q :: []) (fun r31 => ?_)
      show dw_Rf (tw_cz z 0 0) b _ Y _ [(2, .int a2), (0, .ref (b + th)), (1, .int x0)] [.ref (b + r31)]
      refine e_astore_n (z := tw_cz z 0 0) X dX13_told_55 rfl (by decide) (L' := [(3, .ref (b + r31)), (2, .int a2), (0, .ref (b + th)), (1, .int x0)]) rfl ?_
      refine e_aload_n (z := tw_cz z 0 0) X dX13_told_56 rfl 0 rfl ?_
      refine e_alen (k := r31) (kd := 24) (a := 7) (ty := .object "TreasureWalkLaw$Clue") (x := (0, .inr (.inr (.inr (.inr (fun j => Option.map (fun a => b + a) (dw_r Y r31 j))))))) (z := tw_cz z 0 0) X dX13_told_57 (by decide) (fun h => dw_E24 h) rfl ?_
      refine e_istore (z := tw_cz z 0 0) X dX13_told_58 (by decide) (LL := fun v32 => [(4, .int v32), (3, .ref (b + r31)), (2, .int a2), (0, .ref (b + th)), (1, .int x0)]) (fun _ => rfl) (fun v32 => ?_)
      refine e_iconst (z := tw_cz z 0 0) X dX13_told_60 (v := (0 : Int32)) (by decide) ?_
      refine e_istore (z := tw_cz z 0 0) X dX13_told_61 (by decide) (LL := fun v33 => [(5, .int v33), (4, .int v32), (3, .ref (b + r31)), (2, .int a2), (0, .ref (b + th)), (1, .int x0)]) (fun _ => rfl) (fun v33 => ?_)
      refine e_lp (α := Int32 × Int32) (zJ := fun a34 => tw_cz z 0 0) (YJ := fun a34 => Y) (pcJ := 63) (LJ := fun a34 => [(5, .int a34.2), (4, .int v32), (3, .ref (b + r31)), (2, .int a34.1), (0, .ref (b + th)), (1, .int x0)]) (stJ := fun a34 => []) (fun k35 hk35 a34 => ?_) n (a2, v33)
      refine e_iload (z := tw_cz z 0 0) X dX13_told_63 0 rfl ?_
      refine e_iload (z := tw_cz z 0 0) X dX13_told_65 1 rfl ?_
      refine e_icmp_ge (z := tw_cz z 0 0) X dX13_told_67 (tgt := 93) (by decide) ?_ ?_
      ·
        exact dw_Rf.sub [3, 4, 5] rfl (hj5 a34.1)
      ·
        refine e_aload_n (z := tw_cz z 0 0) X dX13_told_70 rfl 2 rfl ?_
        refine e_iload (z := tw_cz z 0 0) X dX13_told_71 0 rfl ?_
        refine e_aald (k := r31) (kd := 24) (a := 7) (ty := .object "TreasureWalkLaw$Clue") (z := tw_cz z 0 0) X dX13_told_73 (by decide) (fun h => dw_E24 h) rfl rfl ?_
        refine e_nn (r := (dw_r Y r31 (Int32.toNatClampNeg a34.2))) (LL := fun _ => [(5, .int a34.2), (4, .int v32), (3, .ref (b + r31)), (2, .int a34.1), (0, .ref (b + th)), (1, .int x0)]) (SS := fun q => dw_v b q :: []) (fun r36 => ?_)
        show dw_Rf (tw_cz z 0 0) b _ Y _ [(5, .int a34.2), (4, .int v32), (3, .ref (b + r31)), (2, .int a34.1), (0, .ref (b + th)), (1, .int x0)] [.ref (b + r36)]
        refine e_astore (z := tw_cz z 0 0) X dX13_told_74 (by decide) (L' := [(6, .ref (b + r36)), (5, .int a34.2), (4, .int v32), (3, .ref (b + r31)), (2, .int a34.1), (0, .ref (b + th)), (1, .int x0)]) rfl ?_
        refine e_aload (z := tw_cz z 0 0) X dX13_told_76 0 rfl ?_
        refine e_getf (ci := 12) (T := TX12) (f := 2) (k := r36) (z := tw_cz z 0 0) X dX13_told_78 (Or.inl ⟨_, dw_w673⟩) dw_in12 rfl (by decide) (by decide) (fun h => dw_E12 h) rfl ?_
        refine e_jn (α := Int32) (zJ := fun a37 => tw_cz z 0 0) (YJ := fun a37 => Y) (pcJ := 87) (LJ := fun a37 => [(5, .int a34.2), (4, .int v32), (3, .ref (b + r31)), (2, .int a37), (0, .ref (b + th)), (1, .int x0)]) (stJ := fun a37 => []) (fun a37 => ?_) (fun j38 hj38 => ?_)
        ·
          refine e_iinc (z := tw_cz z 0 0) X dX13_told_87 0 rfl (v := (1 : Int32)) (by decide) (by decide) (LL := fun v39 => [(5, .int v39), (4, .int v32), (3, .ref (b + r31)), (2, .int a37), (0, .ref (b + th)), (1, .int x0)]) (fun _ => rfl) (fun v39 => ?_)
          refine e_goto (z := tw_cz z 0 0) X dX13_told_90 (tgt := 63) (by decide) ?_
          exact hk35 (a37, v39)
        refine e_if_eq (z := tw_cz z 0 0) X dX13_told_81 (tgt := 87) (by decide) ?_ ?_
        ·
          exact dw_Rf.sub [1, 2, 3, 4, 5, 6] rfl (hj38 a34.1)
        ·
          refine e_iinc (z := tw_cz z 0 0) X dX13_told_84 4 rfl (v := (1 : Int32)) (by decide) (by decide) (LL := fun v40 => [(2, .int v40), (6, .ref (b + r36)), (5, .int a34.2), (4, .int v32), (3, .ref (b + r31)), (0, .ref (b + th)), (1, .int x0)]) (fun _ => rfl) (fun v40 => ?_)
          exact dw_Rf.sub [2, 3, 4, 0, 5, 6] rfl (hj38 v40)
  refine e_icmp_ne (z := tw_cz z 0 0) X dX13_told_4 (tgt := 46) (by decide) ?_ ?_
  ·
    exact hj3 v1
  ·
    refine e_aload_n (z := tw_cz z 0 0) X dX13_told_7 rfl 1 rfl ?_
    refine e_getf (ci := 13) (T := TX13) (f := 4) (k := th) (z := tw_cz z 0 0) X dX13_told_8 (Or.inl ⟨_, dw_w598⟩) dw_in13 rfl (by decide) (by decide) (fun h => dw_E13 h) rfl ?_
    refine e_nn (r := (dw_r Y th 4)) (LL := fun _ => [(2, .int v1), (0, .ref (b + th)), (1, .int x0)]) (SS := fun q => dw_v b q :: []) (fun r41 => ?_)
    show dw_Rf (tw_cz z 0 0) b _ Y _ [(2, .int v1), (0, .ref (b + th)), (1, .int x0)] [.ref (b + r41)]
    refine e_astore_n (z := tw_cz z 0 0) X dX13_told_11 rfl (by decide) (L' := [(3, .ref (b + r41)), (2, .int v1), (0, .ref (b + th)), (1, .int x0)]) rfl ?_
    refine e_aload_n (z := tw_cz z 0 0) X dX13_told_12 rfl 0 rfl ?_
    refine e_alen (k := r41) (kd := 20) (a := 0) (ty := .int) (x := (0, .inl (dw_i Y r41))) (z := tw_cz z 0 0) X dX13_told_13 (by decide) (fun h => dw_E20 h) rfl ?_
    refine e_istore (z := tw_cz z 0 0) X dX13_told_14 (by decide) (LL := fun v42 => [(4, .int v42), (3, .ref (b + r41)), (2, .int v1), (0, .ref (b + th)), (1, .int x0)]) (fun _ => rfl) (fun v42 => ?_)
    refine e_iconst (z := tw_cz z 0 0) X dX13_told_16 (v := (0 : Int32)) (by decide) ?_
    refine e_istore (z := tw_cz z 0 0) X dX13_told_17 (by decide) (LL := fun v43 => [(5, .int v43), (4, .int v42), (3, .ref (b + r41)), (2, .int v1), (0, .ref (b + th)), (1, .int x0)]) (fun _ => rfl) (fun v43 => ?_)
    refine e_lp (α := Int32 × Int32) (zJ := fun a44 => tw_cz z 0 0) (YJ := fun a44 => Y) (pcJ := 19) (LJ := fun a44 => [(5, .int a44.2), (4, .int v42), (3, .ref (b + r41)), (2, .int a44.1), (0, .ref (b + th)), (1, .int x0)]) (stJ := fun a44 => []) (fun k45 hk45 a44 => ?_) n (v1, v43)
    refine e_iload (z := tw_cz z 0 0) X dX13_told_19 0 rfl ?_
    refine e_iload (z := tw_cz z 0 0) X dX13_told_21 1 rfl ?_
    refine e_icmp_ge (z := tw_cz z 0 0) X dX13_told_23 (tgt := 46) (by decide) ?_ ?_
    ·
      exact dw_Rf.sub [3, 4, 5] rfl (hj3 a44.1)
    ·
      refine e_aload_n (z := tw_cz z 0 0) X dX13_told_26 rfl 2 rfl ?_
      refine e_iload (z := tw_cz z 0 0) X dX13_told_27 0 rfl ?_
      refine e_iald (k := r41) (z := tw_cz z 0 0) X dX13_told_29 ?_
      refine e_istore (z := tw_cz z 0 0) X dX13_told_30 (by decide) (LL := fun v46 => [(6, .int v46), (5, .int a44.2), (4, .int v42), (3, .ref (b + r41)), (2, .int a44.1), (0, .ref (b + th)), (1, .int x0)]) (fun _ => rfl) (fun v46 => ?_)
      refine e_iload (z := tw_cz z 0 0) X dX13_told_32 0 rfl ?_
      refine e_jn (α := Int32) (zJ := fun a47 => tw_cz z 0 0) (YJ := fun a47 => Y) (pcJ := 40) (LJ := fun a47 => [(5, .int a44.2), (4, .int v42), (3, .ref (b + r41)), (2, .int a47), (0, .ref (b + th)), (1, .int x0)]) (stJ := fun a47 => []) (fun a47 => ?_) (fun j48 hj48 => ?_)
      ·
        refine e_iinc (z := tw_cz z 0 0) X dX13_told_40 0 rfl (v := (1 : Int32)) (by decide) (by decide) (LL := fun v49 => [(5, .int v49), (4, .int v42), (3, .ref (b + r41)), (2, .int a47), (0, .ref (b + th)), (1, .int x0)]) (fun _ => rfl) (fun v49 => ?_)
        refine e_goto (z := tw_cz z 0 0) X dX13_told_43 (tgt := 19) (by decide) ?_
        exact hk45 (a47, v49)
      refine e_if_lt (z := tw_cz z 0 0) X dX13_told_34 (tgt := 40) (by decide) ?_ ?_
      ·
        exact dw_Rf.sub [1, 2, 3, 4, 5, 6] rfl (hj48 a44.1)
      ·
        refine e_iinc (z := tw_cz z 0 0) X dX13_told_37 4 rfl (v := (1 : Int32)) (by decide) (by decide) (LL := fun v50 => [(2, .int v50), (6, .int v46), (5, .int a44.2), (4, .int v42), (3, .ref (b + r41)), (0, .ref (b + th)), (1, .int x0)]) (fun _ => rfl) (fun v50 => ?_)
        exact dw_Rf.sub [2, 3, 4, 0, 5, 6] rfl (hj48 v50)
def dw_P_X13_hides (n : Nat) (th : Nat) (x0 : Int32) (Y : dw_S) (Q : Int32 × dw_S → Prop) : Prop :=
pw_ck (dw_is Y th 13) (
dw_P_X13_left n th Y (fun (r1 : Nat × dw_S) =>
dw_P_X13_many n r1.1 r1.2 (fun (r2 : Int32) =>
pw_lt r2 (fun (v3 : Int32) =>
tw_jn (fun (a4 : Int32) =>
pw_ck (dw_is r1.2 th 13) (pw_lt (dw_pi r1.2 th 9 a4) (fun (Y6 : dw_S) =>
tw_jn (fun (a7 : Int32) =>
pw_lt a7 (fun (v9 : Int32) =>
pw_ck (dw_is Y6 r1.1 21) (
pw_lt ((Int32.ofNat (dw_l Y6 r1.1)) - (1 : Int32)) (fun (v10 : Int32) =>
pw_lt v3 (fun (v11 : Int32) =>
pw_lp (fun (k13 : (Int32 × Int32 × dw_S) → Prop) (a12 : Int32 × Int32 × dw_S) =>
if a12.1 < 0 then (Q (v3, a12.2.2))
else (pw_ck (dw_is a12.2.2 r1.1 21 ∧ tw_ok a12.1 (dw_l a12.2.2 r1.1) = true) (
tw_jn (fun (a14 : Int32 × dw_S) =>
pw_lt (a12.1 + (-1 : Int32)) (fun (v16 : Int32) =>
k13 (v16, a14.1, a14.2))) (fun (j15 : (Int32 × dw_S) → Prop) =>
if ¬ (dw_i a12.2.2 r1.1 (Int32.toNatClampNeg a12.1)) = 0 then (pw_lt (a12.2.1 + (-1 : Int32)) (fun (v17 : Int32) =>
if ¬ v17 = v9 then (j15 (v17, a12.2.2))
else (pw_ck (dw_is a12.2.2 th 13) (pw_lt (dw_pi a12.2.2 th 10 a12.1) (fun (Y18 : dw_S) =>
j15 (v17, Y18))))))
else (j15 (a12.2.1, a12.2.2)))))) n (v10, v11, Y6)))))) (fun (j8 : (Int32) → Prop) =>
if ¬ v3 = 0 then (pw_ck (¬ v3 = 0) (
j8 (x0 - x0 / v3 * v3)))
else (j8 (0 : Int32)))))) (fun (j5 : (Int32) → Prop) =>
if ¬ v3 = 0 then (j5 (1 : Int32))
else (j5 (0 : Int32)))))))
theorem dw_y_X13_hides : tw_My yX13_hides cX13_hides 7 (some .int) 1 := ⟨List.mem_of_getElem? dw_w730, List.mem_of_getElem? dw_w50, by decide +kernel, by decide +kernel, by decide +kernel⟩
theorem dw_v_X13_hides : dw_Mv yX13_hides "TreasureWalkLaw$Island" := ⟨List.mem_of_getElem? dw_w728, List.mem_of_getElem? dw_w729⟩
set_option maxRecDepth 100000 in
set_option maxHeartbeats 4000000 in
theorem dw_m_X13_hides {l : Launch} {b : Nat} {D : tw_G} {C : Nat → ClassId} {S : Nat → Nat} (hD : D.2 = []) {n : Nat} {th : Nat} {x0 : Int32} {Y : dw_S} {Q : Int32 × dw_S → Prop}  (h : dw_P_X13_hides n th x0 Y Q) : dw_Met l b D C S yX13_hides cX13_hides 7 (some .int) ({ frames := 11, cells := 95, slots := 8574, locals := 293 } : Room) [.ref (b + th), .int x0] Y (fun r => some (.int r.1)) (fun r => r.2) Q := by
  refine dw_metOf (dw_P_X13_hides n th x0 Y Q) h _ _ Q (by decide +kernel) (Nat.le_of_ble_eq_true rfl) ?_
  intro z el eB eD eC eS eR X hA hnm hret hQ
  subst el eD eC eS
  have hb : tw_zB z ≤ b := Nat.le_of_eq eB
  have hA : dw_AK (tw_zB z) (tw_zS z) (tw_zs z) := by rw [eB]; exact hA
  have hfr : (tw_zR z).frames = 11 := by rw [eR]
  have hlo : (tw_zR z).locals = 293 := by rw [eR]
  have eMC : (tw_zR z).cells = 95 := by rw [eR]
  have eMS : (tw_zR z).slots = 8574 := by rw [eR]
  have X : tw_X z cX13_hides "TreasureWalkLaw$Island" 7 := X
  show dw_Rf (tw_cz z 0 0) b _ Y 0 [(0, .ref (b + th)), (1, .int x0)] []
  unfold dw_P_X13_hides
  refine e_aload_n (z := tw_cz z 0 0) X dX13_hides_0 rfl 0 rfl ?_
  refine dw_ckq (by exact ⟨Nat.le_of_ble_eq_true rfl, Nat.le_of_ble_eq_true rfl⟩) (e_callV (k := th) (ci := 13) (Cn := "TreasureWalkLaw$Island") (T := TX13) (N := 13) (c := 0) (s := 0) (As := []) (z := tw_cz z 0 0) X hA hb hD ⟨rfl, rfl⟩ ⟨eMC, eMS⟩ dX13_hides_1 (fun Q h => dw_m_X13_left hD h) dw_y_X13_left dw_v_X13_left _ dw_w731 (by decide) rfl (fun h => dw_E13 h) rfl ⟨tw_le hfr rfl, tw_le hlo rfl⟩ (Nat.le_of_ble_eq_true rfl) rfl (fun r1 => ?_))
  show dw_Rf (tw_cz z 95 8574) b _ r1.2 _ [(0, .ref (b + th)), (1, .int x0)] [.ref (b + r1.1)]
  refine e_astore_n (z := tw_cz z 95 8574) X dX13_hides_4 rfl (by decide) (L' := [(2, .ref (b + r1.1)), (0, .ref (b + th)), (1, .int x0)]) rfl ?_
  refine e_aload_n (z := tw_cz z 95 8574) X dX13_hides_5 rfl 0 rfl ?_
  refine dw_ckp (by exact ⟨Nat.le_of_ble_eq_true rfl, Nat.le_of_ble_eq_true rfl⟩) (e_callS (c := 95) (s := 8574) (As := [.ref (b + r1.1)]) (z := tw_cz z 95 8574) X hA hb hD ⟨rfl, rfl⟩ ⟨eMC, eMS⟩ dX13_hides_6 (fun Q h => dw_m_X13_many hD h) dw_y_X13_many dw_v_X13_many _ dw_w732 rfl ⟨tw_le hfr rfl, tw_le hlo rfl⟩ (Nat.le_of_ble_eq_true rfl) rfl (fun r2 => ?_))
  show dw_Rf (tw_cz z 95 8574) b _ r1.2 _ [(2, .ref (b + r1.1)), (0, .ref (b + th)), (1, .int x0)] [.int r2]
  refine e_istore_n (z := tw_cz z 95 8574) X dX13_hides_9 rfl (by decide) (LL := fun v3 => [(3, .int v3), (2, .ref (b + r1.1)), (0, .ref (b + th)), (1, .int x0)]) (fun _ => rfl) (fun v3 => ?_)
  refine e_aload_n (z := tw_cz z 95 8574) X dX13_hides_10 rfl 2 rfl ?_
  refine e_iload_n (z := tw_cz z 95 8574) X dX13_hides_11 rfl 0 rfl ?_
  refine e_jn (α := Int32) (zJ := fun a4 => tw_cz z 95 8574) (YJ := fun a4 => r1.2) (pcJ := 20) (LJ := fun a4 => [(3, .int v3), (2, .ref (b + r1.1)), (0, .ref (b + th)), (1, .int x0)]) (stJ := fun a4 => [.int a4, .ref (b + th)]) (fun a4 => ?_) (fun j5 hj5 => ?_)
  ·
    show dw_Rf (tw_cz z 95 8574) b _ r1.2 _ [(3, .int v3), (2, .ref (b + r1.1)), (0, .ref (b + th)), (1, .int x0)] (.int a4 :: .ref (b + th) :: [])
    refine e_put (ci := 13) (T := TX13) (f := 9) (ty := .int) (k := th) (z := tw_cz z 95 8574) X hb dX13_hides_20 (Or.inl ⟨_, dw_w608⟩) dw_in13 tyX13 tyX13_ok nmX13 rfl (by decide) rfl (by decide +kernel) rfl rfl (by decide) (fun h => dw_F13 h) (Nat.le_of_ble_eq_true rfl) (fun h => dw_p13_9 h) rfl rfl rfl (fun a ha => dw_E_pi ha) (fun Y6 => ?_)
    refine e_iload_n (z := tw_cz z 95 8574) X dX13_hides_23 rfl 0 rfl ?_
    refine e_jn (α := Int32) (zJ := fun a7 => tw_cz z 95 8574) (YJ := fun a7 => Y6) (pcJ := 34) (LJ := fun a7 => [(3, .int v3), (2, .ref (b + r1.1)), (0, .ref (b + th))]) (stJ := fun a7 => [.int a7]) (fun a7 => ?_) (fun j8 hj8 => ?_)
    ·
      refine e_istore (z := tw_cz z 95 8574) X dX13_hides_34 (by decide) (LL := fun v9 => [(4, .int v9), (3, .int v3), (2, .ref (b + r1.1)), (0, .ref (b + th))]) (fun _ => rfl) (fun v9 => ?_)
      refine e_aload_n (z := tw_cz z 95 8574) X dX13_hides_36 rfl 2 rfl ?_
      refine e_alen (k := r1.1) (kd := 21) (a := 1) (ty := .boolean) (x := (0, .inl (dw_i Y6 r1.1))) (z := tw_cz z 95 8574) X dX13_hides_37 (by decide) (fun h => dw_E21 h) rfl ?_
      refine e_iconst (z := tw_cz z 95 8574) X dX13_hides_38 (v := (1 : Int32)) (by decide) ?_
      refine e_isub (z := tw_cz z 95 8574) X dX13_hides_39 ?_
      refine e_istore (z := tw_cz z 95 8574) X dX13_hides_40 (by decide) (LL := fun v10 => [(5, .int v10), (4, .int v9), (3, .int v3), (2, .ref (b + r1.1)), (0, .ref (b + th))]) (fun _ => rfl) (fun v10 => ?_)
      refine e_iload_n (z := tw_cz z 95 8574) X dX13_hides_42 rfl 2 rfl ?_
      refine e_istore (z := tw_cz z 95 8574) X dX13_hides_43 (by decide) (LL := fun v11 => [(6, .int v11), (5, .int v10), (4, .int v9), (3, .int v3), (2, .ref (b + r1.1)), (0, .ref (b + th))]) (fun _ => rfl) (fun v11 => ?_)
      refine e_lp (α := Int32 × Int32 × dw_S) (zJ := fun a12 => tw_cz z 95 8574) (YJ := fun a12 => a12.2.2) (pcJ := 45) (LJ := fun a12 => [(6, .int a12.2.1), (5, .int a12.1), (4, .int v9), (3, .int v3), (2, .ref (b + r1.1)), (0, .ref (b + th))]) (stJ := fun a12 => []) (fun k13 hk13 a12 => ?_) n (v10, v11, Y6)
      refine e_iload (z := tw_cz z 95 8574) X dX13_hides_45 1 rfl ?_
      refine e_if_lt (z := tw_cz z 95 8574) X dX13_hides_47 (tgt := 82) (by decide) ?_ ?_
      ·
        refine e_iload_n (z := tw_cz z 95 8574) X dX13_hides_82 rfl 3 rfl ?_
        exact dw_ckp (by exact ⟨Nat.le_of_ble_eq_true rfl, Nat.le_of_ble_eq_true rfl⟩) (e_iret (z := z) X eB dX13_hides_83 hret ⟨eMC, eMS⟩ hQ rfl rfl)
      ·
        refine e_aload_n (z := tw_cz z 95 8574) X dX13_hides_50 rfl 4 rfl ?_
        refine e_iload (z := tw_cz z 95 8574) X dX13_hides_51 1 rfl ?_
        refine e_zald (k := r1.1) (z := tw_cz z 95 8574) X dX13_hides_53 ?_
        refine e_jn (α := Int32 × dw_S) (zJ := fun a14 => tw_cz z 95 8574) (YJ := fun a14 => a14.2) (pcJ := 76) (LJ := fun a14 => [(6, .int a14.1), (5, .int a12.1), (4, .int v9), (3, .int v3), (2, .ref (b + r1.1)), (0, .ref (b + th))]) (stJ := fun a14 => []) (fun a14 => ?_) (fun j15 hj15 => ?_)
        ·
          refine e_iinc (z := tw_cz z 95 8574) X dX13_hides_76 1 rfl (v := (-1 : Int32)) (by decide) (by decide) (LL := fun v16 => [(5, .int v16), (6, .int a14.1), (4, .int v9), (3, .int v3), (2, .ref (b + r1.1)), (0, .ref (b + th))]) (fun _ => rfl) (fun v16 => ?_)
          refine e_goto (z := tw_cz z 95 8574) X dX13_hides_79 (tgt := 45) (by decide) ?_
          exact dw_Rf.sub [1, 0, 2, 3, 4, 5] rfl (hk13 (v16, a14.1, a14.2))
        refine e_if_ne (z := tw_cz z 95 8574) X dX13_hides_54 (tgt := 60) (by decide) ?_ ?_
        ·
          refine e_iinc (z := tw_cz z 95 8574) X dX13_hides_60 0 rfl (v := (-1 : Int32)) (by decide) (by decide) (LL := fun v17 => [(6, .int v17), (5, .int a12.1), (4, .int v9), (3, .int v3), (2, .ref (b + r1.1)), (0, .ref (b + th))]) (fun _ => rfl) (fun v17 => ?_)
          refine e_iload (z := tw_cz z 95 8574) X dX13_hides_63 0 rfl ?_
          refine e_iload (z := tw_cz z 95 8574) X dX13_hides_65 2 rfl ?_
          refine e_icmp_ne (z := tw_cz z 95 8574) X dX13_hides_67 (tgt := 76) (by decide) ?_ ?_
          ·
            exact hj15 (v17, a12.2.2)
          ·
            refine e_aload_n (z := tw_cz z 95 8574) X dX13_hides_70 rfl 5 rfl ?_
            refine e_iload (z := tw_cz z 95 8574) X dX13_hides_71 1 rfl ?_
            show dw_Rf (tw_cz z 95 8574) b _ a12.2.2 _ [(6, .int v17), (5, .int a12.1), (4, .int v9), (3, .int v3), (2, .ref (b + r1.1)), (0, .ref (b + th))] (.int a12.1 :: .ref (b + th) :: [])
            refine e_put (ci := 13) (T := TX13) (f := 10) (ty := .int) (k := th) (z := tw_cz z 95 8574) X hb dX13_hides_73 (Or.inl ⟨_, dw_w610⟩) dw_in13 tyX13 tyX13_ok nmX13 rfl (by decide) rfl (by decide +kernel) rfl rfl (by decide) (fun h => dw_F13 h) (Nat.le_of_ble_eq_true rfl) (fun h => dw_p13_10 h) rfl rfl rfl (fun a ha => dw_E_pi ha) (fun Y18 => ?_)
            exact hj15 (v17, Y18)
        ·
          refine e_goto (z := tw_cz z 95 8574) X dX13_hides_57 (tgt := 76) (by decide) ?_
          exact hj15 (a12.2.1, a12.2.2)
    refine e_if_ne (z := tw_cz z 95 8574) X dX13_hides_24 (tgt := 31) (by decide) ?_ ?_
    ·
      refine e_iload_n (z := tw_cz z 95 8574) X dX13_hides_31 rfl 3 rfl ?_
      refine e_iload_n (z := tw_cz z 95 8574) X dX13_hides_32 rfl 0 rfl ?_
      refine e_irem (z := tw_cz z 95 8574) X dX13_hides_33 ?_
      exact dw_Rf.sub [0, 1, 2] rfl (hj8 (x0 - x0 / v3 * v3))
    ·
      refine e_iconst (z := tw_cz z 95 8574) X dX13_hides_27 (v := (0 : Int32)) (by decide) ?_
      refine e_goto (z := tw_cz z 95 8574) X dX13_hides_28 (tgt := 34) (by decide) ?_
      exact dw_Rf.sub [0, 1, 2] rfl (hj8 (0 : Int32))
  refine e_if_ne (z := tw_cz z 95 8574) X dX13_hides_12 (tgt := 19) (by decide) ?_ ?_
  ·
    refine e_iconst (z := tw_cz z 95 8574) X dX13_hides_19 (v := (1 : Int32)) (by decide) ?_
    exact hj5 (1 : Int32)
  ·
    refine e_iconst (z := tw_cz z 95 8574) X dX13_hides_15 (v := (0 : Int32)) (by decide) ?_
    refine e_goto (z := tw_cz z 95 8574) X dX13_hides_16 (tgt := 20) (by decide) ?_
    exact hj5 (0 : Int32)
def dw_P_X13_checksum (n : Nat) (th : Nat) (Y : dw_S) (Q : Int64 × dw_S → Prop) : Prop :=
pw_lt (0 : Int64) (fun (v1 : Int64) =>
pw_lt (0 : Int32) (fun (v2 : Int32) =>
pw_lp (fun (k4 : (Int64 × Int32 × dw_S × Nat × Nat) → Prop) (a3 : Int64 × Int32 × dw_S × Nat × Nat) =>
if (13 : Int32) ≤ a3.2.1 then (pw_ck (dw_is a3.2.2.1 th 13 ∧ (a3.2.2.2.1 + 94) ≤ 844 ∧ (a3.2.2.2.2 + 8544) ≤ 71112) (
dw_P_X13_reasons n th a3.2.2.1 (fun (r5 : Nat × dw_S) =>
pw_lt (0 : Int32) (fun (v6 : Int32) =>
pw_lp (fun (k8 : (Int64 × Int32) → Prop) (a7 : Int64 × Int32) =>
pw_ck (dw_is r5.2 r5.1 20) (
if (Int32.ofNat (dw_l r5.2 r5.1)) ≤ a7.2 then (pw_lt (0 : Int32) (fun (v9 : Int32) =>
pw_lp (fun (k11 : (Int64 × Int32 × dw_S × Nat × Nat) → Prop) (a10 : Int64 × Int32 × dw_S × Nat × Nat) =>
pw_ck (dw_is a10.2.2.1 th 13) (
pw_nn (dw_r a10.2.2.1 th 6) (fun (r12 : Nat) =>
pw_ck (dw_is a10.2.2.1 r12 24) (
if (Int32.ofNat (dw_l a10.2.2.1 r12)) ≤ a10.2.1 then (pw_ck (a10.2.2.2.1 ≤ 844 ∧ a10.2.2.2.2 ≤ 71112) (Q (a10.1, a10.2.2.1)))
else (pw_ck (dw_is a10.2.2.1 th 13) (
pw_nn (dw_r a10.2.2.1 th 6) (fun (r13 : Nat) =>
pw_ck (dw_is a10.2.2.1 r13 24 ∧ tw_ok a10.2.1 (dw_l a10.2.2.1 r13) = true) (
pw_nn (dw_r a10.2.2.1 r13 (Int32.toNatClampNeg a10.2.1)) (fun (r14 : Nat) =>
pw_ck (dw_is a10.2.2.1 r14 12) (
tw_jn (fun (a15 : Int32) =>
pw_lt (((31 : Int64) * a10.1) + (Int32.toInt64 a15)) (fun (v17 : Int64) =>
pw_lt (0 : Int32) (fun (v18 : Int32) =>
pw_lp (fun (k20 : (Int64 × Int32 × Int32 × dw_S × Nat × Nat) → Prop) (a19 : Int64 × Int32 × Int32 × dw_S × Nat × Nat) =>
pw_ck (dw_is a19.2.2.2.1 th 13) (
pw_nn (dw_r a19.2.2.2.1 th 6) (fun (r21 : Nat) =>
pw_ck (dw_is a19.2.2.2.1 r21 24 ∧ tw_ok a19.2.1 (dw_l a19.2.2.2.1 r21) = true) (
pw_nn (dw_r a19.2.2.2.1 r21 (Int32.toNatClampNeg a19.2.1)) (fun (r22 : Nat) =>
pw_ck (dw_is a19.2.2.2.1 r22 12) (
pw_nn (dw_r a19.2.2.2.1 r22 1) (fun (r23 : Nat) =>
pw_ck (dw_is a19.2.2.2.1 r23 23) (
if (Int32.ofNat (dw_l a19.2.2.2.1 r23)) < a19.2.2.1 then (pw_lt (a19.2.1 + (1 : Int32)) (fun (v24 : Int32) =>
k11 (a19.1, v24, a19.2.2.2.1, a19.2.2.2.2.1, a19.2.2.2.2.2)))
else (pw_ck (dw_is a19.2.2.2.1 th 13 ∧ (a19.2.2.2.2.1 + 31) ≤ 844 ∧ (a19.2.2.2.2.2 + 2838) ≤ 71112) (
dw_P_X13_walks n th a19.2.1 a19.2.2.1 (-1 : Int32) a19.2.2.2.1 (fun (r25 : Int32 × dw_S) =>
pw_lt (((31 : Int64) * a19.1) + (Int32.toInt64 r25.1)) (fun (v26 : Int64) =>
pw_lt (a19.2.2.1 + (1 : Int32)) (fun (v27 : Int32) =>
k20 (v26, a19.2.1, v27, r25.2, (a19.2.2.2.2.1 + 31), (a19.2.2.2.2.2 + 2838))))))))))))))) n (v17, a10.2.1, v18, a10.2.2.1, a10.2.2.2.1, a10.2.2.2.2)))) (fun (j16 : (Int32) → Prop) =>
if (dw_i a10.2.2.1 r14 2) = 0 then (j16 (0 : Int32))
else (j16 (1 : Int32))))))))))))) n (a7.1, v9, r5.2, (a3.2.2.2.1 + 94), (a3.2.2.2.2 + 8544))))
else (pw_ck (dw_is r5.2 th 13) (
pw_nn (dw_r r5.2 th 2) (fun (r28 : Nat) =>
pw_ck (dw_is r5.2 r28 21 ∧ tw_ok a7.2 (dw_l r5.2 r28) = true) (
tw_jn (fun (a29 : Int32) =>
pw_lt (((31 : Int64) * a7.1) + (Int32.toInt64 a29)) (fun (v31 : Int64) =>
pw_lt (a7.2 + (1 : Int32)) (fun (v32 : Int32) =>
k8 (v31, v32)))) (fun (j30 : (Int32) → Prop) =>
if (dw_i r5.2 r28 (Int32.toNatClampNeg a7.2)) = 0 then (pw_ck (dw_is r5.2 r5.1 20 ∧ tw_ok a7.2 (dw_l r5.2 r5.1) = true) (
tw_jn (fun (a33 : Int32) =>
pw_ck (dw_is r5.2 th 13) (
pw_nn (dw_r r5.2 th 3) (fun (r35 : Nat) =>
pw_ck (dw_is r5.2 r35 21 ∧ tw_ok a7.2 (dw_l r5.2 r35) = true) (
tw_jn (fun (a36 : Int32) =>
j30 (a33 + a36)) (fun (j37 : (Int32) → Prop) =>
if (dw_i r5.2 r35 (Int32.toNatClampNeg a7.2)) = 0 then (j37 (0 : Int32))
else (j37 (1 : Int32))))))) (fun (j34 : (Int32) → Prop) =>
if ¬ (dw_i r5.2 r5.1 (Int32.toNatClampNeg a7.2)) = 0 then (j34 (1 : Int32))
else (j34 (3 : Int32)))))
else (j30 (0 : Int32))))))))) n (a3.1, v6)))))
else (pw_ck (dw_is a3.2.2.1 th 13 ∧ (a3.2.2.2.1 + (dw_tc a3.2.1)) ≤ 844 ∧ (a3.2.2.2.2 + (dw_ts a3.2.1)) ≤ 71112) (
dw_P_X13_told n th a3.2.1 a3.2.2.1 (fun (r38 : Int32 × dw_S) =>
pw_lt (((31 : Int64) * a3.1) + (Int32.toInt64 r38.1)) (fun (v39 : Int64) =>
pw_lt (a3.2.1 + (1 : Int32)) (fun (v40 : Int32) =>
k4 (v39, v40, r38.2, (a3.2.2.2.1 + (dw_tc a3.2.1)), (a3.2.2.2.2 + (dw_ts a3.2.1))))))))) n (v1, v2, Y, 0, 0)))
theorem dw_y_X13_checksum : tw_My yX13_checksum cX13_checksum 6 (some .long) 0 := ⟨List.mem_of_getElem? dw_w1584, List.mem_of_getElem? dw_w50, by decide +kernel, by decide +kernel, by decide +kernel⟩
theorem dw_v_X13_checksum : dw_Mv yX13_checksum "TreasureWalkLaw$Island" := ⟨List.mem_of_getElem? dw_w1582, List.mem_of_getElem? dw_w1583⟩
set_option maxRecDepth 100000 in
set_option maxHeartbeats 4000000 in
theorem dw_m_X13_checksum {l : Launch} {b : Nat} {D : tw_G} {C : Nat → ClassId} {S : Nat → Nat} (hD : D.2 = []) {n : Nat} {th : Nat} {Y : dw_S} {Q : Int64 × dw_S → Prop}  (h : dw_P_X13_checksum n th Y Q) : dw_Met l b D C S yX13_checksum cX13_checksum 6 (some .long) ({ frames := 12, cells := 844, slots := 71112, locals := 319 } : Room) [.ref (b + th)] Y (fun r => some (.long r.1)) (fun r => r.2) Q := by
  refine dw_metOf (dw_P_X13_checksum n th Y Q) h _ _ Q (by decide +kernel) (Nat.le_of_ble_eq_true rfl) ?_
  intro z el eB eD eC eS eR X hA hnm hret hQ
  subst el eD eC eS
  have hb : tw_zB z ≤ b := Nat.le_of_eq eB
  have hA : dw_AK (tw_zB z) (tw_zS z) (tw_zs z) := by rw [eB]; exact hA
  have hfr : (tw_zR z).frames = 12 := by rw [eR]
  have hlo : (tw_zR z).locals = 319 := by rw [eR]
  have eMC : (tw_zR z).cells = 844 := by rw [eR]
  have eMS : (tw_zR z).slots = 71112 := by rw [eR]
  have X : tw_X z cX13_checksum "TreasureWalkLaw$Island" 6 := X
  show dw_Rf (tw_cz z 0 0) b _ Y 0 [(0, .ref (b + th))] []
  unfold dw_P_X13_checksum
  refine e_lconst (z := tw_cz z 0 0) X dX13_checksum_0 (v := (0 : Int64)) (by decide) ?_
  refine e_lstore_n (z := tw_cz z 0 0) X dX13_checksum_1 rfl (by decide) (LL := fun v1 => [(1, .long v1), (0, .ref (b + th))]) (fun _ => rfl) (fun v1 => ?_)
  refine e_iconst (z := tw_cz z 0 0) X dX13_checksum_2 (v := (0 : Int32)) (by decide) ?_
  refine e_istore_n (z := tw_cz z 0 0) X dX13_checksum_3 rfl (by decide) (LL := fun v2 => [(3, .int v2), (1, .long v1), (0, .ref (b + th))]) (fun _ => rfl) (fun v2 => ?_)
  refine e_lp (α := Int64 × Int32 × dw_S × Nat × Nat) (zJ := fun a3 => tw_cz z a3.2.2.2.1 a3.2.2.2.2) (YJ := fun a3 => a3.2.2.1) (pcJ := 4) (LJ := fun a3 => [(3, .int a3.2.1), (1, .long a3.1), (0, .ref (b + th))]) (stJ := fun a3 => []) (fun k4 hk4 a3 => ?_) n (v1, v2, Y, 0, 0)
  refine e_iload_n (z := tw_cz z a3.2.2.2.1 a3.2.2.2.2) X dX13_checksum_4 rfl 0 rfl ?_
  refine e_bipush (z := tw_cz z a3.2.2.2.1 a3.2.2.2.2) X dX13_checksum_5 (v := (13 : Int32)) (by decide) ?_
  refine e_icmp_ge (z := tw_cz z a3.2.2.2.1 a3.2.2.2.2) X dX13_checksum_7 (tgt := 29) (by decide) ?_ ?_
  ·
    refine e_aload_n (z := tw_cz z a3.2.2.2.1 a3.2.2.2.2) X dX13_checksum_29 rfl 2 rfl ?_
    refine e_callV (k := th) (ci := 13) (Cn := "TreasureWalkLaw$Island") (T := TX13) (N := 13) (c := a3.2.2.2.1) (s := a3.2.2.2.2) (As := []) (z := tw_cz z a3.2.2.2.1 a3.2.2.2.2) X hA hb hD ⟨rfl, rfl⟩ ⟨eMC, eMS⟩ dX13_checksum_30 (fun Q h => dw_m_X13_reasons hD h) dw_y_X13_reasons dw_v_X13_reasons _ dw_w686 (by decide) rfl (fun h => dw_E13 h) rfl ⟨tw_le hfr rfl, tw_le hlo rfl⟩ (Nat.le_of_ble_eq_true rfl) rfl (fun r5 => ?_)
    show dw_Rf (tw_cz z (a3.2.2.2.1 + 94) (a3.2.2.2.2 + 8544)) b _ r5.2 _ [(3, .int a3.2.1), (1, .long a3.1), (0, .ref (b + th))] [.ref (b + r5.1)]
    refine e_astore_n (z := tw_cz z (a3.2.2.2.1 + 94) (a3.2.2.2.2 + 8544)) X dX13_checksum_33 rfl (by decide) (L' := [(3, .ref (b + r5.1)), (1, .long a3.1), (0, .ref (b + th))]) rfl ?_
    refine e_iconst (z := tw_cz z (a3.2.2.2.1 + 94) (a3.2.2.2.2 + 8544)) X dX13_checksum_34 (v := (0 : Int32)) (by decide) ?_
    refine e_istore (z := tw_cz z (a3.2.2.2.1 + 94) (a3.2.2.2.2 + 8544)) X dX13_checksum_35 (by decide) (LL := fun v6 => [(4, .int v6), (3, .ref (b + r5.1)), (1, .long a3.1), (0, .ref (b + th))]) (fun _ => rfl) (fun v6 => ?_)
    refine e_lp (α := Int64 × Int32) (zJ := fun a7 => tw_cz z (a3.2.2.2.1 + 94) (a3.2.2.2.2 + 8544)) (YJ := fun a7 => r5.2) (pcJ := 37) (LJ := fun a7 => [(4, .int a7.2), (3, .ref (b + r5.1)), (1, .long a7.1), (0, .ref (b + th))]) (stJ := fun a7 => []) (fun k8 hk8 a7 => ?_) n (a3.1, v6)
    refine e_iload (z := tw_cz z (a3.2.2.2.1 + 94) (a3.2.2.2.2 + 8544)) X dX13_checksum_37 0 rfl ?_
    refine e_aload_n (z := tw_cz z (a3.2.2.2.1 + 94) (a3.2.2.2.2 + 8544)) X dX13_checksum_39 rfl 1 rfl ?_
    refine e_alen (k := r5.1) (kd := 20) (a := 0) (ty := .int) (x := (0, .inl (dw_i r5.2 r5.1))) (z := tw_cz z (a3.2.2.2.1 + 94) (a3.2.2.2.2 + 8544)) X dX13_checksum_40 (by decide) (fun h => dw_E20 h) rfl ?_
    refine e_icmp_ge (z := tw_cz z (a3.2.2.2.1 + 94) (a3.2.2.2.2 + 8544)) X dX13_checksum_41 (tgt := 100) (by decide) ?_ ?_
    ·
      refine e_iconst (z := tw_cz z (a3.2.2.2.1 + 94) (a3.2.2.2.2 + 8544)) X dX13_checksum_100 (v := (0 : Int32)) (by decide) ?_
      refine e_istore (z := tw_cz z (a3.2.2.2.1 + 94) (a3.2.2.2.2 + 8544)) X dX13_checksum_101 (by decide) (LL := fun v9 => [(4, .int v9), (3, .ref (b + r5.1)), (1, .long a7.1), (0, .ref (b + th))]) (fun _ => rfl) (fun v9 => ?_)
      refine dw_Rf.sub [0, 2, 3] rfl ?_
      refine e_lp (α := Int64 × Int32 × dw_S × Nat × Nat) (zJ := fun a10 => tw_cz z a10.2.2.2.1 a10.2.2.2.2) (YJ := fun a10 => a10.2.2.1) (pcJ := 103) (LJ := fun a10 => [(4, .int a10.2.1), (1, .long a10.1), (0, .ref (b + th))]) (stJ := fun a10 => []) (fun k11 hk11 a10 => ?_) n (a7.1, v9, r5.2, (a3.2.2.2.1 + 94), (a3.2.2.2.2 + 8544))
      refine e_iload (z := tw_cz z a10.2.2.2.1 a10.2.2.2.2) X dX13_checksum_103 0 rfl ?_
      refine e_aload_n (z := tw_cz z a10.2.2.2.1 a10.2.2.2.2) X dX13_checksum_105 rfl 2 rfl ?_
      refine e_getf (ci := 13) (T := TX13) (f := 6) (k := th) (z := tw_cz z a10.2.2.2.1 a10.2.2.2.2) X dX13_checksum_106 (Or.inl ⟨_, dw_w602⟩) dw_in13 rfl (by decide) (by decide) (fun h => dw_E13 h) rfl ?_
      refine e_nn (r := (dw_r a10.2.2.1 th 6)) (LL := fun _ => [(4, .int a10.2.1), (1, .long a10.1), (0, .ref (b + th))]) (SS := fun q => dw_v b q :: [.int a10.2.1]) (fun r12 => ?_)
      show dw_Rf (tw_cz z a10.2.2.2.1 a10.2.2.2.2) b _ a10.2.2.1 _ [(4, .int a10.2.1), (1, .long a10.1), (0, .ref (b + th))] [.ref (b + r12), .int a10.2.1]
      refine e_alen (k := r12) (kd := 24) (a := 7) (ty := .object "TreasureWalkLaw$Clue") (x := (0, .inr (.inr (.inr (.inr (fun j => Option.map (fun a => b + a) (dw_r a10.2.2.1 r12 j))))))) (z := tw_cz z a10.2.2.2.1 a10.2.2.2.2) X dX13_checksum_109 (by decide) (fun h => dw_E24 h) rfl ?_
      refine e_icmp_ge (z := tw_cz z a10.2.2.2.1 a10.2.2.2.2) X dX13_checksum_110 (tgt := 187) (by decide) ?_ ?_
      ·
        refine e_lload_n (z := tw_cz z a10.2.2.2.1 a10.2.2.2.2) X dX13_checksum_187 rfl 1 rfl ?_
        exact e_lret (z := z) X eB dX13_checksum_188 hret ⟨eMC, eMS⟩ hQ rfl rfl
      ·
        refine e_ldc2 (z := tw_cz z a10.2.2.2.1 a10.2.2.2.2) X dX13_checksum_113 (v := (31 : Int64)) _ dw_w1585 ?_
        refine e_lload_n (z := tw_cz z a10.2.2.2.1 a10.2.2.2.2) X dX13_checksum_116 rfl 1 rfl ?_
        refine e_lmul (z := tw_cz z a10.2.2.2.1 a10.2.2.2.2) X dX13_checksum_117 ?_
        refine e_aload_n (z := tw_cz z a10.2.2.2.1 a10.2.2.2.2) X dX13_checksum_118 rfl 2 rfl ?_
        refine e_getf (ci := 13) (T := TX13) (f := 6) (k := th) (z := tw_cz z a10.2.2.2.1 a10.2.2.2.2) X dX13_checksum_119 (Or.inl ⟨_, dw_w602⟩) dw_in13 rfl (by decide) (by decide) (fun h => dw_E13 h) rfl ?_
        refine e_nn (r := (dw_r a10.2.2.1 th 6)) (LL := fun _ => [(4, .int a10.2.1), (1, .long a10.1), (0, .ref (b + th))]) (SS := fun q => dw_v b q :: [.long ((31 : Int64) * a10.1)]) (fun r13 => ?_)
        show dw_Rf (tw_cz z a10.2.2.2.1 a10.2.2.2.2) b _ a10.2.2.1 _ [(4, .int a10.2.1), (1, .long a10.1), (0, .ref (b + th))] [.ref (b + r13), .long ((31 : Int64) * a10.1)]
        refine e_iload (z := tw_cz z a10.2.2.2.1 a10.2.2.2.2) X dX13_checksum_122 0 rfl ?_
        refine e_aald (k := r13) (kd := 24) (a := 7) (ty := .object "TreasureWalkLaw$Clue") (z := tw_cz z a10.2.2.2.1 a10.2.2.2.2) X dX13_checksum_124 (by decide) (fun h => dw_E24 h) rfl rfl ?_
        refine e_nn (r := (dw_r a10.2.2.1 r13 (Int32.toNatClampNeg a10.2.1))) (LL := fun _ => [(4, .int a10.2.1), (1, .long a10.1), (0, .ref (b + th))]) (SS := fun q => dw_v b q :: [.long ((31 : Int64) * a10.1)]) (fun r14 => ?_)
        show dw_Rf (tw_cz z a10.2.2.2.1 a10.2.2.2.2) b _ a10.2.2.1 _ [(4, .int a10.2.1), (1, .long a10.1), (0, .ref (b + th))] [.ref (b + r14), .long ((31 : Int64) * a10.1)]
        refine e_getf (ci := 12) (T := TX12) (f := 2) (k := r14) (z := tw_cz z a10.2.2.2.1 a10.2.2.2.2) X dX13_checksum_125 (Or.inl ⟨_, dw_w673⟩) dw_in12 rfl (by decide) (by decide) (fun h => dw_E12 h) rfl ?_
        refine e_jn (α := Int32) (zJ := fun a15 => tw_cz z a10.2.2.2.1 a10.2.2.2.2) (YJ := fun a15 => a10.2.2.1) (pcJ := 136) (LJ := fun a15 => [(4, .int a10.2.1), (0, .ref (b + th))]) (stJ := fun a15 => [.int a15, .long ((31 : Int64) * a10.1)]) (fun a15 => ?_) (fun j16 hj16 => ?_)
        ·
          refine e_i2l (z := tw_cz z a10.2.2.2.1 a10.2.2.2.2) X dX13_checksum_136 ?_
          refine e_ladd (z := tw_cz z a10.2.2.2.1 a10.2.2.2.2) X dX13_checksum_137 ?_
          refine e_lstore_n (z := tw_cz z a10.2.2.2.1 a10.2.2.2.2) X dX13_checksum_138 rfl (by decide) (LL := fun v17 => [(1, .long v17), (4, .int a10.2.1), (0, .ref (b + th))]) (fun _ => rfl) (fun v17 => ?_)
          refine e_iconst (z := tw_cz z a10.2.2.2.1 a10.2.2.2.2) X dX13_checksum_139 (v := (0 : Int32)) (by decide) ?_
          refine e_istore (z := tw_cz z a10.2.2.2.1 a10.2.2.2.2) X dX13_checksum_140 (by decide) (LL := fun v18 => [(5, .int v18), (1, .long v17), (4, .int a10.2.1), (0, .ref (b + th))]) (fun _ => rfl) (fun v18 => ?_)
          refine e_lp (α := Int64 × Int32 × Int32 × dw_S × Nat × Nat) (zJ := fun a19 => tw_cz z a19.2.2.2.2.1 a19.2.2.2.2.2) (YJ := fun a19 => a19.2.2.2.1) (pcJ := 142) (LJ := fun a19 => [(5, .int a19.2.2.1), (1, .long a19.1), (4, .int a19.2.1), (0, .ref (b + th))]) (stJ := fun a19 => []) (fun k20 hk20 a19 => ?_) n (v17, a10.2.1, v18, a10.2.2.1, a10.2.2.2.1, a10.2.2.2.2)
          refine e_iload (z := tw_cz z a19.2.2.2.2.1 a19.2.2.2.2.2) X dX13_checksum_142 0 rfl ?_
          refine e_aload_n (z := tw_cz z a19.2.2.2.2.1 a19.2.2.2.2.2) X dX13_checksum_144 rfl 3 rfl ?_
          refine e_getf (ci := 13) (T := TX13) (f := 6) (k := th) (z := tw_cz z a19.2.2.2.2.1 a19.2.2.2.2.2) X dX13_checksum_145 (Or.inl ⟨_, dw_w602⟩) dw_in13 rfl (by decide) (by decide) (fun h => dw_E13 h) rfl ?_
          refine e_nn (r := (dw_r a19.2.2.2.1 th 6)) (LL := fun _ => [(5, .int a19.2.2.1), (1, .long a19.1), (4, .int a19.2.1), (0, .ref (b + th))]) (SS := fun q => dw_v b q :: [.int a19.2.2.1]) (fun r21 => ?_)
          show dw_Rf (tw_cz z a19.2.2.2.2.1 a19.2.2.2.2.2) b _ a19.2.2.2.1 _ [(5, .int a19.2.2.1), (1, .long a19.1), (4, .int a19.2.1), (0, .ref (b + th))] [.ref (b + r21), .int a19.2.2.1]
          refine e_iload (z := tw_cz z a19.2.2.2.2.1 a19.2.2.2.2.2) X dX13_checksum_148 2 rfl ?_
          refine e_aald (k := r21) (kd := 24) (a := 7) (ty := .object "TreasureWalkLaw$Clue") (z := tw_cz z a19.2.2.2.2.1 a19.2.2.2.2.2) X dX13_checksum_150 (by decide) (fun h => dw_E24 h) rfl rfl ?_
          refine e_nn (r := (dw_r a19.2.2.2.1 r21 (Int32.toNatClampNeg a19.2.1))) (LL := fun _ => [(5, .int a19.2.2.1), (1, .long a19.1), (4, .int a19.2.1), (0, .ref (b + th))]) (SS := fun q => dw_v b q :: [.int a19.2.2.1]) (fun r22 => ?_)
          show dw_Rf (tw_cz z a19.2.2.2.2.1 a19.2.2.2.2.2) b _ a19.2.2.2.1 _ [(5, .int a19.2.2.1), (1, .long a19.1), (4, .int a19.2.1), (0, .ref (b + th))] [.ref (b + r22), .int a19.2.2.1]
          refine e_getf (ci := 12) (T := TX12) (f := 1) (k := r22) (z := tw_cz z a19.2.2.2.2.1 a19.2.2.2.2.2) X dX13_checksum_151 (Or.inl ⟨_, dw_w670⟩) dw_in12 rfl (by decide) (by decide) (fun h => dw_E12 h) rfl ?_
          refine e_nn (r := (dw_r a19.2.2.2.1 r22 1)) (LL := fun _ => [(5, .int a19.2.2.1), (1, .long a19.1), (4, .int a19.2.1), (0, .ref (b + th))]) (SS := fun q => dw_v b q :: [.int a19.2.2.1]) (fun r23 => ?_)
          show dw_Rf (tw_cz z a19.2.2.2.2.1 a19.2.2.2.2.2) b _ a19.2.2.2.1 _ [(5, .int a19.2.2.1), (1, .long a19.1), (4, .int a19.2.1), (0, .ref (b + th))] [.ref (b + r23), .int a19.2.2.1]
          refine e_alen (k := r23) (kd := 23) (a := 6) (ty := .object "TreasureWalkLaw$Leg") (x := (0, .inr (.inr (.inr (.inr (fun j => Option.map (fun a => b + a) (dw_r a19.2.2.2.1 r23 j))))))) (z := tw_cz z a19.2.2.2.2.1 a19.2.2.2.2.2) X dX13_checksum_154 (by decide) (fun h => dw_E23 h) rfl ?_
          refine e_icmp_gt (z := tw_cz z a19.2.2.2.2.1 a19.2.2.2.2.2) X dX13_checksum_155 (tgt := 181) (by decide) ?_ ?_
          ·
            refine e_iinc (z := tw_cz z a19.2.2.2.2.1 a19.2.2.2.2.2) X dX13_checksum_181 2 rfl (v := (1 : Int32)) (by decide) (by decide) (LL := fun v24 => [(4, .int v24), (5, .int a19.2.2.1), (1, .long a19.1), (0, .ref (b + th))]) (fun _ => rfl) (fun v24 => ?_)
            refine e_goto (z := tw_cz z a19.2.2.2.2.1 a19.2.2.2.2.2) X dX13_checksum_184 (tgt := 103) (by decide) ?_
            exact dw_Rf.sub [0, 2, 3] rfl (hk11 (a19.1, v24, a19.2.2.2.1, a19.2.2.2.2.1, a19.2.2.2.2.2))
          ·
            refine e_ldc2 (z := tw_cz z a19.2.2.2.2.1 a19.2.2.2.2.2) X dX13_checksum_158 (v := (31 : Int64)) _ dw_w1585 ?_
            refine e_lload_n (z := tw_cz z a19.2.2.2.2.1 a19.2.2.2.2.2) X dX13_checksum_161 rfl 1 rfl ?_
            refine e_lmul (z := tw_cz z a19.2.2.2.2.1 a19.2.2.2.2.2) X dX13_checksum_162 ?_
            refine e_aload_n (z := tw_cz z a19.2.2.2.2.1 a19.2.2.2.2.2) X dX13_checksum_163 rfl 3 rfl ?_
            refine e_iload (z := tw_cz z a19.2.2.2.2.1 a19.2.2.2.2.2) X dX13_checksum_164 2 rfl ?_
            refine e_iload (z := tw_cz z a19.2.2.2.2.1 a19.2.2.2.2.2) X dX13_checksum_166 0 rfl ?_
            refine e_iconst (z := tw_cz z a19.2.2.2.2.1 a19.2.2.2.2.2) X dX13_checksum_168 (v := (-1 : Int32)) (by decide) ?_
            refine e_callV (k := th) (ci := 13) (Cn := "TreasureWalkLaw$Island") (T := TX13) (N := 13) (c := a19.2.2.2.2.1) (s := a19.2.2.2.2.2) (As := [.int a19.2.1, .int a19.2.2.1, .int (-1 : Int32)]) (z := tw_cz z a19.2.2.2.2.1 a19.2.2.2.2.2) X hA hb hD ⟨rfl, rfl⟩ ⟨eMC, eMS⟩ dX13_checksum_169 (fun Q h => dw_m_X13_walks hD h) dw_y_X13_walks dw_v_X13_walks _ dw_w690 (by decide) rfl (fun h => dw_E13 h) rfl ⟨tw_le hfr rfl, tw_le hlo rfl⟩ (Nat.le_of_ble_eq_true rfl) rfl (fun r25 => ?_)
            show dw_Rf (tw_cz z (a19.2.2.2.2.1 + 31) (a19.2.2.2.2.2 + 2838)) b _ r25.2 _ [(5, .int a19.2.2.1), (1, .long a19.1), (4, .int a19.2.1), (0, .ref (b + th))] [.int r25.1, .long ((31 : Int64) * a19.1)]
            refine e_i2l (z := tw_cz z (a19.2.2.2.2.1 + 31) (a19.2.2.2.2.2 + 2838)) X dX13_checksum_172 ?_
            refine e_ladd (z := tw_cz z (a19.2.2.2.2.1 + 31) (a19.2.2.2.2.2 + 2838)) X dX13_checksum_173 ?_
            refine e_lstore_n (z := tw_cz z (a19.2.2.2.2.1 + 31) (a19.2.2.2.2.2 + 2838)) X dX13_checksum_174 rfl (by decide) (LL := fun v26 => [(1, .long v26), (5, .int a19.2.2.1), (4, .int a19.2.1), (0, .ref (b + th))]) (fun _ => rfl) (fun v26 => ?_)
            refine e_iinc (z := tw_cz z (a19.2.2.2.2.1 + 31) (a19.2.2.2.2.2 + 2838)) X dX13_checksum_175 1 rfl (v := (1 : Int32)) (by decide) (by decide) (LL := fun v27 => [(5, .int v27), (1, .long v26), (4, .int a19.2.1), (0, .ref (b + th))]) (fun _ => rfl) (fun v27 => ?_)
            refine e_goto (z := tw_cz z (a19.2.2.2.2.1 + 31) (a19.2.2.2.2.2 + 2838)) X dX13_checksum_178 (tgt := 142) (by decide) ?_
            exact hk20 (v26, a19.2.1, v27, r25.2, (a19.2.2.2.2.1 + 31), (a19.2.2.2.2.2 + 2838))
        refine e_if_eq (z := tw_cz z a10.2.2.2.1 a10.2.2.2.2) X dX13_checksum_128 (tgt := 135) (by decide) ?_ ?_
        ·
          refine e_iconst (z := tw_cz z a10.2.2.2.1 a10.2.2.2.2) X dX13_checksum_135 (v := (0 : Int32)) (by decide) ?_
          exact dw_Rf.sub [0, 2] rfl (hj16 (0 : Int32))
        ·
          refine e_iconst (z := tw_cz z a10.2.2.2.1 a10.2.2.2.2) X dX13_checksum_131 (v := (1 : Int32)) (by decide) ?_
          refine e_goto (z := tw_cz z a10.2.2.2.1 a10.2.2.2.2) X dX13_checksum_132 (tgt := 136) (by decide) ?_
          exact dw_Rf.sub [0, 2] rfl (hj16 (1 : Int32))
    ·
      refine e_ldc2 (z := tw_cz z (a3.2.2.2.1 + 94) (a3.2.2.2.2 + 8544)) X dX13_checksum_44 (v := (31 : Int64)) _ dw_w1585 ?_
      refine e_lload_n (z := tw_cz z (a3.2.2.2.1 + 94) (a3.2.2.2.2 + 8544)) X dX13_checksum_47 rfl 2 rfl ?_
      refine e_lmul (z := tw_cz z (a3.2.2.2.1 + 94) (a3.2.2.2.2 + 8544)) X dX13_checksum_48 ?_
      refine e_aload_n (z := tw_cz z (a3.2.2.2.1 + 94) (a3.2.2.2.2 + 8544)) X dX13_checksum_49 rfl 3 rfl ?_
      refine e_getf (ci := 13) (T := TX13) (f := 2) (k := th) (z := tw_cz z (a3.2.2.2.1 + 94) (a3.2.2.2.2 + 8544)) X dX13_checksum_50 (Or.inl ⟨_, dw_w594⟩) dw_in13 rfl (by decide) (by decide) (fun h => dw_E13 h) rfl ?_
      refine e_nn (r := (dw_r r5.2 th 2)) (LL := fun _ => [(4, .int a7.2), (3, .ref (b + r5.1)), (1, .long a7.1), (0, .ref (b + th))]) (SS := fun q => dw_v b q :: [.long ((31 : Int64) * a7.1)]) (fun r28 => ?_)
      show dw_Rf (tw_cz z (a3.2.2.2.1 + 94) (a3.2.2.2.2 + 8544)) b _ r5.2 _ [(4, .int a7.2), (3, .ref (b + r5.1)), (1, .long a7.1), (0, .ref (b + th))] [.ref (b + r28), .long ((31 : Int64) * a7.1)]
      refine e_iload (z := tw_cz z (a3.2.2.2.1 + 94) (a3.2.2.2.2 + 8544)) X dX13_checksum_53 0 rfl ?_
      refine e_zald (k := r28) (z := tw_cz z (a3.2.2.2.1 + 94) (a3.2.2.2.2 + 8544)) X dX13_checksum_55 ?_
      refine e_jn (α := Int32) (zJ := fun a29 => tw_cz z (a3.2.2.2.1 + 94) (a3.2.2.2.2 + 8544)) (YJ := fun a29 => r5.2) (pcJ := 91) (LJ := fun a29 => [(4, .int a7.2), (3, .ref (b + r5.1)), (0, .ref (b + th))]) (stJ := fun a29 => [.int a29, .long ((31 : Int64) * a7.1)]) (fun a29 => ?_) (fun j30 hj30 => ?_)
      ·
        refine e_i2l (z := tw_cz z (a3.2.2.2.1 + 94) (a3.2.2.2.2 + 8544)) X dX13_checksum_91 ?_
        refine e_ladd (z := tw_cz z (a3.2.2.2.1 + 94) (a3.2.2.2.2 + 8544)) X dX13_checksum_92 ?_
        refine e_lstore_n (z := tw_cz z (a3.2.2.2.1 + 94) (a3.2.2.2.2 + 8544)) X dX13_checksum_93 rfl (by decide) (LL := fun v31 => [(1, .long v31), (4, .int a7.2), (3, .ref (b + r5.1)), (0, .ref (b + th))]) (fun _ => rfl) (fun v31 => ?_)
        refine e_iinc (z := tw_cz z (a3.2.2.2.1 + 94) (a3.2.2.2.2 + 8544)) X dX13_checksum_94 1 rfl (v := (1 : Int32)) (by decide) (by decide) (LL := fun v32 => [(4, .int v32), (1, .long v31), (3, .ref (b + r5.1)), (0, .ref (b + th))]) (fun _ => rfl) (fun v32 => ?_)
        refine e_goto (z := tw_cz z (a3.2.2.2.1 + 94) (a3.2.2.2.2 + 8544)) X dX13_checksum_97 (tgt := 37) (by decide) ?_
        exact dw_Rf.sub [0, 2, 1, 3] rfl (hk8 (v31, v32))
      refine e_if_eq (z := tw_cz z (a3.2.2.2.1 + 94) (a3.2.2.2.2 + 8544)) X dX13_checksum_56 (tgt := 63) (by decide) ?_ ?_
      ·
        refine e_aload_n (z := tw_cz z (a3.2.2.2.1 + 94) (a3.2.2.2.2 + 8544)) X dX13_checksum_63 rfl 1 rfl ?_
        refine e_iload (z := tw_cz z (a3.2.2.2.1 + 94) (a3.2.2.2.2 + 8544)) X dX13_checksum_64 0 rfl ?_
        refine e_iald (k := r5.1) (z := tw_cz z (a3.2.2.2.1 + 94) (a3.2.2.2.2 + 8544)) X dX13_checksum_66 ?_
        refine e_jn (α := Int32) (zJ := fun a33 => tw_cz z (a3.2.2.2.1 + 94) (a3.2.2.2.2 + 8544)) (YJ := fun a33 => r5.2) (pcJ := 75) (LJ := fun a33 => [(4, .int a7.2), (3, .ref (b + r5.1)), (0, .ref (b + th))]) (stJ := fun a33 => [.int a33, .long ((31 : Int64) * a7.1)]) (fun a33 => ?_) (fun j34 hj34 => ?_)
        ·
          refine e_aload_n (z := tw_cz z (a3.2.2.2.1 + 94) (a3.2.2.2.2 + 8544)) X dX13_checksum_75 rfl 2 rfl ?_
          refine e_getf (ci := 13) (T := TX13) (f := 3) (k := th) (z := tw_cz z (a3.2.2.2.1 + 94) (a3.2.2.2.2 + 8544)) X dX13_checksum_76 (Or.inl ⟨_, dw_w596⟩) dw_in13 rfl (by decide) (by decide) (fun h => dw_E13 h) rfl ?_
          refine e_nn (r := (dw_r r5.2 th 3)) (LL := fun _ => [(4, .int a7.2), (3, .ref (b + r5.1)), (0, .ref (b + th))]) (SS := fun q => dw_v b q :: [.int a33, .long ((31 : Int64) * a7.1)]) (fun r35 => ?_)
          show dw_Rf (tw_cz z (a3.2.2.2.1 + 94) (a3.2.2.2.2 + 8544)) b _ r5.2 _ [(4, .int a7.2), (3, .ref (b + r5.1)), (0, .ref (b + th))] [.ref (b + r35), .int a33, .long ((31 : Int64) * a7.1)]
          refine e_iload (z := tw_cz z (a3.2.2.2.1 + 94) (a3.2.2.2.2 + 8544)) X dX13_checksum_79 0 rfl ?_
          refine e_zald (k := r35) (z := tw_cz z (a3.2.2.2.1 + 94) (a3.2.2.2.2 + 8544)) X dX13_checksum_81 ?_
          refine e_jn (α := Int32) (zJ := fun a36 => tw_cz z (a3.2.2.2.1 + 94) (a3.2.2.2.2 + 8544)) (YJ := fun a36 => r5.2) (pcJ := 90) (LJ := fun a36 => [(4, .int a7.2), (3, .ref (b + r5.1)), (0, .ref (b + th))]) (stJ := fun a36 => [.int a36, .int a33, .long ((31 : Int64) * a7.1)]) (fun a36 => ?_) (fun j37 hj37 => ?_)
          ·
            refine e_iadd (z := tw_cz z (a3.2.2.2.1 + 94) (a3.2.2.2.2 + 8544)) X dX13_checksum_90 ?_
            exact hj30 (a33 + a36)
          refine e_if_eq (z := tw_cz z (a3.2.2.2.1 + 94) (a3.2.2.2.2 + 8544)) X dX13_checksum_82 (tgt := 89) (by decide) ?_ ?_
          ·
            refine e_iconst (z := tw_cz z (a3.2.2.2.1 + 94) (a3.2.2.2.2 + 8544)) X dX13_checksum_89 (v := (0 : Int32)) (by decide) ?_
            exact hj37 (0 : Int32)
          ·
            refine e_iconst (z := tw_cz z (a3.2.2.2.1 + 94) (a3.2.2.2.2 + 8544)) X dX13_checksum_85 (v := (1 : Int32)) (by decide) ?_
            refine e_goto (z := tw_cz z (a3.2.2.2.1 + 94) (a3.2.2.2.2 + 8544)) X dX13_checksum_86 (tgt := 90) (by decide) ?_
            exact hj37 (1 : Int32)
        refine e_if_ne (z := tw_cz z (a3.2.2.2.1 + 94) (a3.2.2.2.2 + 8544)) X dX13_checksum_67 (tgt := 74) (by decide) ?_ ?_
        ·
          refine e_iconst (z := tw_cz z (a3.2.2.2.1 + 94) (a3.2.2.2.2 + 8544)) X dX13_checksum_74 (v := (1 : Int32)) (by decide) ?_
          exact dw_Rf.sub [0, 1, 3] rfl (hj34 (1 : Int32))
        ·
          refine e_iconst (z := tw_cz z (a3.2.2.2.1 + 94) (a3.2.2.2.2 + 8544)) X dX13_checksum_70 (v := (3 : Int32)) (by decide) ?_
          refine e_goto (z := tw_cz z (a3.2.2.2.1 + 94) (a3.2.2.2.2 + 8544)) X dX13_checksum_71 (tgt := 75) (by decide) ?_
          exact dw_Rf.sub [0, 1, 3] rfl (hj34 (3 : Int32))
      ·
        refine e_iconst (z := tw_cz z (a3.2.2.2.1 + 94) (a3.2.2.2.2 + 8544)) X dX13_checksum_59 (v := (0 : Int32)) (by decide) ?_
        refine e_goto (z := tw_cz z (a3.2.2.2.1 + 94) (a3.2.2.2.2 + 8544)) X dX13_checksum_60 (tgt := 91) (by decide) ?_
        exact dw_Rf.sub [0, 1, 3] rfl (hj30 (0 : Int32))
  ·
    refine e_ldc2 (z := tw_cz z a3.2.2.2.1 a3.2.2.2.2) X dX13_checksum_10 (v := (31 : Int64)) _ dw_w1585 ?_
    refine e_lload_n (z := tw_cz z a3.2.2.2.1 a3.2.2.2.2) X dX13_checksum_13 rfl 1 rfl ?_
    refine e_lmul (z := tw_cz z a3.2.2.2.1 a3.2.2.2.2) X dX13_checksum_14 ?_
    refine e_aload_n (z := tw_cz z a3.2.2.2.1 a3.2.2.2.2) X dX13_checksum_15 rfl 2 rfl ?_
    refine e_iload_n (z := tw_cz z a3.2.2.2.1 a3.2.2.2.2) X dX13_checksum_16 rfl 0 rfl ?_
    refine e_callV (k := th) (ci := 13) (Cn := "TreasureWalkLaw$Island") (T := TX13) (N := 13) (c := a3.2.2.2.1) (s := a3.2.2.2.2) (As := [.int a3.2.1]) (z := tw_cz z a3.2.2.2.1 a3.2.2.2.2) X hA hb hD ⟨rfl, rfl⟩ ⟨eMC, eMS⟩ dX13_checksum_17 (fun Q h => dw_m_X13_told hD h) dw_y_X13_told dw_v_X13_told _ dw_w1586 (by decide) rfl (fun h => dw_E13 h) rfl ⟨tw_le hfr rfl, tw_le hlo rfl⟩ (Nat.le_of_ble_eq_true rfl) rfl (fun r38 => ?_)
    show dw_Rf (tw_cz z (a3.2.2.2.1 + (dw_tc a3.2.1)) (a3.2.2.2.2 + (dw_ts a3.2.1))) b _ r38.2 _ [(3, .int a3.2.1), (1, .long a3.1), (0, .ref (b + th))] [.int r38.1, .long ((31 : Int64) * a3.1)]
    refine e_i2l (z := tw_cz z (a3.2.2.2.1 + (dw_tc a3.2.1)) (a3.2.2.2.2 + (dw_ts a3.2.1))) X dX13_checksum_20 ?_
    refine e_ladd (z := tw_cz z (a3.2.2.2.1 + (dw_tc a3.2.1)) (a3.2.2.2.2 + (dw_ts a3.2.1))) X dX13_checksum_21 ?_
    refine e_lstore_n (z := tw_cz z (a3.2.2.2.1 + (dw_tc a3.2.1)) (a3.2.2.2.2 + (dw_ts a3.2.1))) X dX13_checksum_22 rfl (by decide) (LL := fun v39 => [(1, .long v39), (3, .int a3.2.1), (0, .ref (b + th))]) (fun _ => rfl) (fun v39 => ?_)
    refine e_iinc (z := tw_cz z (a3.2.2.2.1 + (dw_tc a3.2.1)) (a3.2.2.2.2 + (dw_ts a3.2.1))) X dX13_checksum_23 1 rfl (v := (1 : Int32)) (by decide) (by decide) (LL := fun v40 => [(3, .int v40), (1, .long v39), (0, .ref (b + th))]) (fun _ => rfl) (fun v40 => ?_)
    refine e_goto (z := tw_cz z (a3.2.2.2.1 + (dw_tc a3.2.1)) (a3.2.2.2.2 + (dw_ts a3.2.1))) X dX13_checksum_26 (tgt := 4) (by decide) ?_
    exact hk4 (v39, v40, r38.2, (a3.2.2.2.1 + (dw_tc a3.2.1)), (a3.2.2.2.2 + (dw_ts a3.2.1)))
