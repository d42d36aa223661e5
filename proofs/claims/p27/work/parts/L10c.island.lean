theorem dw_w580 : lw_tbl[580]? = some ((Jvm.Cond.classLink "TreasureWalkLaw" (177 : Nat) "TreasureWalkLaw$Island")) := by decide +kernel
theorem dw_w582 : lw_tbl[582]? = some ((Jvm.Cond.methodLinkNest "TreasureWalkLaw" (179 : Nat) ({ cls := "TreasureWalkLaw$Island", name := "<init>", desc := "()V" } : Jvm.MethodName) "TreasureWalkLaw")) := by decide +kernel
theorem dw_w591 : lw_tbl[591]? = some ((Jvm.Cond.fieldLink "TreasureWalkLaw" (180 : Nat) "TreasureWalkLaw$Island" "width" "I")) := by decide +kernel
theorem dw_w593 : lw_tbl[593]? = some ((Jvm.Cond.fieldLink "TreasureWalkLaw" (183 : Nat) "TreasureWalkLaw$Island" "height" "I")) := by decide +kernel
theorem dw_w595 : lw_tbl[595]? = some ((Jvm.Cond.fieldLink "TreasureWalkLaw" (186 : Nat) "TreasureWalkLaw$Island" "isWater" "[Z")) := by decide +kernel
theorem dw_w597 : lw_tbl[597]? = some ((Jvm.Cond.fieldLink "TreasureWalkLaw" (190 : Nat) "TreasureWalkLaw$Island" "isDug" "[Z")) := by decide +kernel
theorem dw_w599 : lw_tbl[599]? = some ((Jvm.Cond.fieldLink "TreasureWalkLaw" (212 : Nat) "TreasureWalkLaw$Island" "marks" "[I")) := by decide +kernel
theorem dw_w601 : lw_tbl[601]? = some ((Jvm.Cond.fieldLink "TreasureWalkLaw" (197 : Nat) "TreasureWalkLaw$Island" "bends" "[[I")) := by decide +kernel
theorem dw_w603 : lw_tbl[603]? = some ((Jvm.Cond.fieldLink "TreasureWalkLaw" (221 : Nat) "TreasureWalkLaw$Island" "clues" "[LTreasureWalkLaw$Clue;")) := by decide +kernel
theorem dw_w605 : lw_tbl[605]? = some ((Jvm.Cond.fieldLink "TreasureWalkLaw" (217 : Nat) "TreasureWalkLaw$Island" "team" "I")) := by decide +kernel
theorem dw_w1236 : lw_tbl[1236]? = some ((Jvm.Cond.static ({ cls := "TreasureWalkLaw", name := "randomIsland", desc := "(LTreasureWalk;[ILTreasureWalkLaw$Random;)LTreasureWalkLaw$Island;" } : Jvm.MethodName))) := by decide +kernel
set_option maxRecDepth 100000 in
theorem dw_w1237 : lw_tbl[1237]? = some ((Jvm.Cond.code ({ cls := "TreasureWalkLaw", name := "randomIsland", desc := "(LTreasureWalk;[ILTreasureWalkLaw$Random;)LTreasureWalkLaw$Island;" } : Jvm.MethodName) method_25_code (10 : Nat) (Option.some (Jvm.ClassFile.FieldType.object "TreasureWalkLaw$Island")))) := rfl
theorem dw_w1267 : lw_tbl[1267]? = some ((Jvm.Cond.classLink "TreasureWalkLaw" (196 : Nat) "[I")) := by decide +kernel
theorem dw_w1271 : lw_tbl[1271]? = some ((Jvm.Cond.methodLink "TreasureWalkLaw" (207 : Nat) ({ cls := "java/lang/Math", name := "abs", desc := "(I)I" } : Jvm.MethodName))) := by decide +kernel
theorem dw_w1500 : lw_tbl[1500]? = some ((Jvm.Cond.methodLink "TreasureWalkLaw" (225 : Nat) ({ cls := "TreasureWalkLaw", name := "randomClue", desc := "(LTreasureWalk;[ILTreasureWalkLaw$Random;I)LTreasureWalkLaw$Clue;" } : Jvm.MethodName))) := by decide +kernel
theorem dw_w1539 : lw_tbl[1539]? = some ((Jvm.Cond.methodLink "TreasureWalkLaw" (229 : Nat) ({ cls := "TreasureWalkLaw", name := "loadText", desc := "(LTreasureWalk;[I)I" } : Jvm.MethodName))) := by decide +kernel
def dw_P_L_writeAlld (n : Nat) (r1 : Nat) (r2 : Nat) (r3 : Nat) (Y : dw_S) (Q : dw_S → Prop) : Prop :=
dw_P_L_writed n r1 r2 Y (fun (r21 : dw_S) =>
pw_ck (dw_is r21 r3 20) (
pw_lt (Int32.ofNat (dw_l r21 r3)) (fun (v22 : Int32) =>
pw_lt (0 : Int32) (fun (v23 : Int32) =>
pw_lp (fun (k25 : (Int32 × dw_S) → Prop) (a24 : Int32 × dw_S) =>
if v22 ≤ a24.1 then (Q a24.2)
else (pw_ck (dw_is a24.2 r3 20 ∧ tw_ok a24.1 (dw_l a24.2 r3) = true) (
pw_lt (dw_i a24.2 r3 (Int32.toNatClampNeg a24.1)) (fun (v26 : Int32) =>
dw_P_L_write n r1 21 a24.2 (fun (r27 : dw_S) =>
dw_P_L_writeNumber n r1 v26 r27 (fun (r28 : dw_S) =>
pw_lt (a24.1 + (1 : Int32)) (fun (v29 : Int32) =>
k25 (v29, r28)))))))) n (v23, r21)))))
set_option maxRecDepth 100000 in
set_option maxHeartbeats 4000000 in
theorem dw_m_L_writeAlld {l : Launch} {b : Nat} {D : tw_G} {C : Nat → ClassId} {S : Nat → Nat} (hD : D.2 = []) {n : Nat} {r1 : Nat} {r2 : Nat} {r3 : Nat} {Y : dw_S} {Q : dw_S → Prop}  (h : dw_P_L_writeAlld n r1 r2 r3 Y Q) : dw_Met l b D C S yL_writeAll cL_writeAll 8 none ({ frames := 7, cells := 0, slots := 0, locals := 143 } : Room) [.ref (b + 0), .ref (b + r1), .ref (b + r2), .ref (b + r3)] Y (fun _ => none) (fun r => r) Q := by
  refine dw_metOf (dw_P_L_writeAlld n r1 r2 r3 Y Q) h _ _ Q (by decide +kernel) (Nat.le_of_ble_eq_true rfl) ?_
  intro z el eB eD eC eS eR X hA hnm hret hQ
  subst el eD eC eS
  have hb : tw_zB z ≤ b := Nat.le_of_eq eB
  have hA : dw_AK (tw_zB z) (tw_zS z) (tw_zs z) := by rw [eB]; exact hA
  have hfr : (tw_zR z).frames = 7 := by rw [eR]
  have hlo : (tw_zR z).locals = 143 := by rw [eR]
  have eMC : (tw_zR z).cells = 0 := by rw [eR]
  have eMS : (tw_zR z).slots = 0 := by rw [eR]
  have X : tw_X z cL_writeAll "TreasureWalkLaw" 8 := X
  show dw_Rf (tw_cz z 0 0) b _ Y 0 [(0, .ref (b + 0)), (1, .ref (b + r1)), (2, .ref (b + r2)), (3, .ref (b + r3))] []
  unfold dw_P_L_writeAlld
  refine e_aload_n (z := tw_cz z 0 0) (dw_zX X) dL_writeAll_0 rfl 0 rfl ?_
  refine e_aload_n (z := tw_cz z 0 0) (dw_zX X) dL_writeAll_1 rfl 1 rfl ?_
  refine e_aload_n (z := tw_cz z 0 0) (dw_zX X) dL_writeAll_2 rfl 2 rfl ?_
  refine dw_ckp (by exact ⟨Nat.le_of_ble_eq_true rfl, Nat.le_of_ble_eq_true rfl⟩) (e_callS (c := 0) (s := 0) (As := [.ref (b + 0), .ref (b + r1), .ref (b + r2)]) (z := tw_cz z 0 0) (dw_zX X) (dw_zA hA) (dw_zb hb) (dw_zD hD) dw_z0 (dw_zM eMC eMS) dL_writeAll_3 (fun Q h => dw_m_L_writed (dw_zD hD) h) dw_y_L_write dw_v_L_write _ dw_w1242 rfl ⟨dw_zf hfr rfl, dw_zl hlo rfl⟩ (Nat.le_of_ble_eq_true rfl) rfl (fun r21 => ?_))
  show dw_Rf (tw_cz z 0 0) b _ r21 _ [(0, .ref (b + 0)), (1, .ref (b + r1)), (2, .ref (b + r2)), (3, .ref (b + r3))] []
  refine e_aload_n (z := tw_cz z 0 0) (dw_zX X) dL_writeAll_6 rfl 3 rfl ?_
  refine e_astore (z := tw_cz z 0 0) (dw_zX X) dL_writeAll_7 (by decide) (L' := [(4, .ref (b + r3)), (0, .ref (b + 0)), (1, .ref (b + r1)), (2, .ref (b + r2)), (3, .ref (b + r3))]) rfl ?_
  refine e_aload (z := tw_cz z 0 0) (dw_zX X) dL_writeAll_9 0 rfl ?_
  refine e_alen (k := r3) (kd := 20) (a := 0) (ty := .int) (x := (0, .inl (dw_i r21 r3))) (z := tw_cz z 0 0) (dw_zX X) dL_writeAll_11 (by decide) (fun h => dw_E20 h) rfl ?_
  refine e_istore (z := tw_cz z 0 0) (dw_zX X) dL_writeAll_12 (by decide) (LL := fun v22 => [(5, .int v22), (4, .ref (b + r3)), (0, .ref (b + 0)), (1, .ref (b + r1)), (2, .ref (b + r2)), (3, .ref (b + r3))]) (fun _ => rfl) (fun v22 => ?_)
  refine e_iconst (z := tw_cz z 0 0) (dw_zX X) dL_writeAll_14 (v := (0 : Int32)) (by decide) ?_
  refine e_istore (z := tw_cz z 0 0) (dw_zX X) dL_writeAll_15 (by decide) (LL := fun v23 => [(6, .int v23), (5, .int v22), (4, .ref (b + r3)), (0, .ref (b + 0)), (1, .ref (b + r1)), (2, .ref (b + r2)), (3, .ref (b + r3))]) (fun _ => rfl) (fun v23 => ?_)
  refine dw_Rf.sub [0, 1, 2, 3, 4] rfl ?_
  refine e_lp (α := Int32 × dw_S) (zJ := fun a24 => tw_cz z 0 0) (YJ := fun a24 => a24.2) (pcJ := 17) (LJ := fun a24 => [(6, .int a24.1), (5, .int v22), (4, .ref (b + r3)), (0, .ref (b + 0)), (1, .ref (b + r1))]) (stJ := fun a24 => []) (fun k25 hk25 a24 => ?_) n (v23, r21)
  refine e_iload (z := tw_cz z 0 0) (dw_zX X) dL_writeAll_17 0 rfl ?_
  refine e_iload (z := tw_cz z 0 0) (dw_zX X) dL_writeAll_19 1 rfl ?_
  refine e_icmp_ge (z := tw_cz z 0 0) (dw_zX X) dL_writeAll_21 (tgt := 51) (by decide) ?_ ?_
  ·
    exact dw_ckp (by exact ⟨Nat.le_of_ble_eq_true rfl, Nat.le_of_ble_eq_true rfl⟩) (e_vret (z := z) X eB dL_writeAll_51 hret ⟨eMC, eMS⟩ hQ rfl rfl)
  ·
    refine e_aload (z := tw_cz z 0 0) (dw_zX X) dL_writeAll_24 2 rfl ?_
    refine e_iload (z := tw_cz z 0 0) (dw_zX X) dL_writeAll_26 0 rfl ?_
    refine e_iald (k := r3) (z := tw_cz z 0 0) (dw_zX X) dL_writeAll_28 ?_
    refine e_istore (z := tw_cz z 0 0) (dw_zX X) dL_writeAll_29 (by decide) (LL := fun v26 => [(7, .int v26), (6, .int a24.1), (5, .int v22), (4, .ref (b + r3)), (0, .ref (b + 0)), (1, .ref (b + r1))]) (fun _ => rfl) (fun v26 => ?_)
    refine e_aload_n (z := tw_cz z 0 0) (dw_zX X) dL_writeAll_31 rfl 4 rfl ?_
    refine e_aload_n (z := tw_cz z 0 0) (dw_zX X) dL_writeAll_32 rfl 5 rfl ?_
    refine e_ldcS (z := tw_cz z 0 0) (dw_zX X) dL_writeAll_33 (j := 21) tw_l_W_100 ?_
    refine dw_ckp (by exact ⟨Nat.le_of_ble_eq_true rfl, Nat.le_of_ble_eq_true rfl⟩) (e_callS (c := 0) (s := 0) (As := [.ref (b + 0), .ref (b + r1), .ref (tw_zS z 21)]) (z := tw_cz z 0 0) (dw_zX X) (dw_zA hA) (dw_zb hb) (dw_zD hD) dw_z0 (dw_zM eMC eMS) dL_writeAll_35 (fun Q h => dw_m_L_write (dw_zD hD) (by decide) h) dw_y_L_write dw_v_L_write _ dw_w1242 rfl ⟨dw_zf hfr rfl, dw_zl hlo rfl⟩ (Nat.le_of_ble_eq_true rfl) rfl (fun r27 => ?_))
    show dw_Rf (tw_cz z 0 0) b _ r27 _ [(7, .int v26), (6, .int a24.1), (5, .int v22), (4, .ref (b + r3)), (0, .ref (b + 0)), (1, .ref (b + r1))] []
    refine e_aload_n (z := tw_cz z 0 0) (dw_zX X) dL_writeAll_38 rfl 4 rfl ?_
    refine e_aload_n (z := tw_cz z 0 0) (dw_zX X) dL_writeAll_39 rfl 5 rfl ?_
    refine e_iload (z := tw_cz z 0 0) (dw_zX X) dL_writeAll_40 0 rfl ?_
    refine dw_ckp (by exact ⟨Nat.le_of_ble_eq_true rfl, Nat.le_of_ble_eq_true rfl⟩) (e_callS (c := 0) (s := 0) (As := [.ref (b + 0), .ref (b + r1), .int v26]) (z := tw_cz z 0 0) (dw_zX X) (dw_zA hA) (dw_zb hb) (dw_zD hD) dw_z0 (dw_zM eMC eMS) dL_writeAll_42 (fun Q h => dw_m_L_writeNumber (dw_zD hD) h) dw_y_L_writeNumber dw_v_L_writeNumber _ dw_w1262 rfl ⟨dw_zf hfr rfl, dw_zl hlo rfl⟩ (Nat.le_of_ble_eq_true rfl) rfl (fun r28 => ?_))
    show dw_Rf (tw_cz z 0 0) b _ r28 _ [(7, .int v26), (6, .int a24.1), (5, .int v22), (4, .ref (b + r3)), (0, .ref (b + 0)), (1, .ref (b + r1))] []
    refine e_iinc (z := tw_cz z 0 0) (dw_zX X) dL_writeAll_45 1 rfl (v := (1 : Int32)) (by decide) (by decide) (LL := fun v29 => [(6, .int v29), (7, .int v26), (5, .int v22), (4, .ref (b + r3)), (0, .ref (b + 0)), (1, .ref (b + r1))]) (fun _ => rfl) (fun v29 => ?_)
    refine e_goto (z := tw_cz z 0 0) (dw_zX X) dL_writeAll_48 (tgt := 17) (by decide) ?_
    exact dw_Rf.sub [0, 2, 3, 4, 5] rfl (hk25 (v29, r28))
def dw_P_L_randomIsland (n : Nat) (r1 : Nat) (r2 : Nat) (Y : dw_S) (Q : Option Nat × dw_S → Prop) : Prop :=
pw_al (dw_n Y) (fun (q21 : Nat) => pw_lt (dw_nw Y q21 13 0 (fun _ => 0) (fun _ => none)) (fun (Y22 : dw_S) =>
dw_P_X13_init q21 Y22 (fun (r23 : dw_S) =>
pw_ck (dw_is r23 r2 15) (
dw_P_X15_below r2 (5 : Int32) r23 (fun (r24 : Int32 × dw_S) =>
pw_ck (dw_is r24.2 q21 13) (pw_lt (dw_pi r24.2 q21 0 ((2 : Int32) + r24.1)) (fun (Y25 : dw_S) =>
pw_ck (dw_is Y25 r2 15) (
dw_P_X15_below r2 (4 : Int32) Y25 (fun (r26 : Int32 × dw_S) =>
pw_ck (dw_is r26.2 q21 13) (pw_lt (dw_pi r26.2 q21 1 ((2 : Int32) + r26.1)) (fun (Y27 : dw_S) =>
pw_ck (dw_is Y27 q21 13) (
pw_ck (dw_is Y27 q21 13) (
pw_lt ((dw_i Y27 q21 0) * (dw_i Y27 q21 1)) (fun (v28 : Int32) =>
pw_ck ((¬ v28 < 0 ∧ (Int32.toNatClampNeg v28) ≤ 10000) ∧ 8 ≤ 300 ∧ (32 + (Int32.toNatClampNeg v28)) ≤ 2600) (
pw_al (dw_n Y27) (fun (q29 : Nat) => pw_lt (dw_nw Y27 q29 21 (Int32.toNatClampNeg v28) (fun _ => 0) (fun _ => none)) (fun (Y30 : dw_S) =>
pw_ck (dw_is Y30 q21 13) (pw_lt (dw_pr Y30 q21 2 (some q29)) (fun (Y31 : dw_S) =>
pw_ck ((¬ v28 < 0 ∧ (Int32.toNatClampNeg v28) ≤ 10000) ∧ 9 ≤ 300 ∧ ((32 + (Int32.toNatClampNeg v28)) + (Int32.toNatClampNeg v28)) ≤ 2600) (
pw_al (dw_n Y31) (fun (q32 : Nat) => pw_lt (dw_nw Y31 q32 21 (Int32.toNatClampNeg v28) (fun _ => 0) (fun _ => none)) (fun (Y33 : dw_S) =>
pw_ck (dw_is Y33 q21 13) (pw_lt (dw_pr Y33 q21 3 (some q32)) (fun (Y34 : dw_S) =>
pw_ck ((¬ (2 : Int32) < 0 ∧ (Int32.toNatClampNeg (2 : Int32)) ≤ 10000) ∧ 10 ≤ 300 ∧ (((32 + (Int32.toNatClampNeg v28)) + (Int32.toNatClampNeg v28)) + (Int32.toNatClampNeg (2 : Int32))) ≤ 2600) (
pw_al (dw_n Y34) (fun (q35 : Nat) => pw_lt (dw_nw Y34 q35 20 (Int32.toNatClampNeg (2 : Int32)) (fun _ => 0) (fun _ => none)) (fun (Y36 : dw_S) =>
pw_ck (dw_is Y36 q21 13) (
pw_ck (dw_is Y36 q35 20 ∧ tw_ok (0 : Int32) (dw_l Y36 q35) = true) (pw_lt (dw_pi Y36 q35 (Int32.toNatClampNeg (0 : Int32)) (dw_i Y36 q21 0)) (fun (Y37 : dw_S) =>
pw_ck (dw_is Y37 q21 13) (
pw_ck (dw_is Y37 q35 20 ∧ tw_ok (1 : Int32) (dw_l Y37 q35) = true) (pw_lt (dw_pi Y37 q35 (Int32.toNatClampNeg (1 : Int32)) (dw_i Y37 q21 1)) (fun (Y38 : dw_S) =>
pw_ck (10 ≤ 300 ∧ (((32 + (Int32.toNatClampNeg v28)) + (Int32.toNatClampNeg v28)) + (Int32.toNatClampNeg (2 : Int32))) ≤ 2600) (
dw_P_L_writeAll n r1 5 q35 Y38 (fun (r39 : dw_S) =>
pw_ck (10 ≤ 300 ∧ (((32 + (Int32.toNatClampNeg v28)) + (Int32.toNatClampNeg v28)) + (Int32.toNatClampNeg (2 : Int32))) ≤ 2600) (
dw_P_L_write n r1 29 r39 (fun (r40 : dw_S) =>
pw_ck (dw_is r40 r2 15 ∧ 10 ≤ 300 ∧ (((32 + (Int32.toNatClampNeg v28)) + (Int32.toNatClampNeg v28)) + (Int32.toNatClampNeg (2 : Int32))) ≤ 2600) (
dw_P_X15_below r2 (4 : Int32) r40 (fun (r41 : Int32 × dw_S) =>
pw_lt r41.1 (fun (v42 : Int32) =>
pw_lp (fun (k44 : (Int32 × dw_S × Nat × Nat) → Prop) (a43 : Int32 × dw_S × Nat × Nat) =>
if a43.1 ≤ 0 then (pw_ck (dw_is a43.2.1 r2 15 ∧ a43.2.2.1 ≤ 300 ∧ a43.2.2.2 ≤ 2600) (
dw_P_X15_below r2 (3 : Int32) a43.2.1 (fun (r45 : Int32 × dw_S) =>
pw_lt r45.1 (fun (v46 : Int32) =>
pw_ck ((¬ v46 < 0 ∧ (Int32.toNatClampNeg v46) ≤ 10000) ∧ (a43.2.2.1 + 1) ≤ 300 ∧ (a43.2.2.2 + (Int32.toNatClampNeg v46)) ≤ 2600) (
pw_al (dw_n r45.2) (fun (q47 : Nat) => pw_lt (dw_nw r45.2 q47 26 (Int32.toNatClampNeg v46) (fun _ => 0) (fun _ => none)) (fun (Y48 : dw_S) =>
pw_ck (dw_is Y48 q21 13) (pw_lt (dw_pr Y48 q21 5 (some q47)) (fun (Y49 : dw_S) =>
pw_lt (0 : Int32) (fun (v50 : Int32) =>
pw_lp (fun (k52 : (Int32 × dw_S × Nat × Nat) → Prop) (a51 : Int32 × dw_S × Nat × Nat) =>
if v46 ≤ a51.1 then (pw_ck (dw_is a51.2.1 r2 15 ∧ a51.2.2.1 ≤ 300 ∧ a51.2.2.2 ≤ 2600) (
dw_P_X15_below r2 (3 : Int32) a51.2.1 (fun (r53 : Int32 × dw_S) =>
pw_lt ((1 : Int32) + r53.1) (fun (v54 : Int32) =>
pw_lt (0 : Int32) (fun (v55 : Int32) =>
pw_lp (fun (k57 : (Int32 × dw_S × Nat × Nat) → Prop) (a56 : Int32 × dw_S × Nat × Nat) =>
if v54 ≤ a56.1 then (pw_ck (dw_is a56.2.1 r2 15 ∧ a56.2.2.1 ≤ 300 ∧ a56.2.2.2 ≤ 2600) (
dw_P_X15_below r2 (2 : Int32) a56.2.1 (fun (r58 : Int32 × dw_S) =>
tw_jn (fun (a59 : dw_S × Nat × Nat) =>
pw_ck (dw_is a59.1 r2 15 ∧ a59.2.1 ≤ 300 ∧ a59.2.2 ≤ 2600) (
dw_P_X15_below r2 (4 : Int32) a59.1 (fun (r61 : Int32 × dw_S) =>
pw_lt r61.1 (fun (v62 : Int32) =>
pw_ck ((¬ v62 < 0 ∧ (Int32.toNatClampNeg v62) ≤ 10000) ∧ (a59.2.1 + 1) ≤ 300 ∧ (a59.2.2 + (Int32.toNatClampNeg v62)) ≤ 2600) (
pw_al (dw_n r61.2) (fun (q63 : Nat) => pw_lt (dw_nw r61.2 q63 24 (Int32.toNatClampNeg v62) (fun _ => 0) (fun _ => none)) (fun (Y64 : dw_S) =>
pw_ck (dw_is Y64 q21 13) (pw_lt (dw_pr Y64 q21 6 (some q63)) (fun (Y65 : dw_S) =>
pw_lt (0 : Int32) (fun (v66 : Int32) =>
pw_lp (fun (k68 : (Int32 × dw_S × Nat × Nat) → Prop) (a67 : Int32 × dw_S × Nat × Nat) =>
if v62 ≤ a67.1 then (pw_ck ((a67.2.2.1 + 1) ≤ 300 ∧ (a67.2.2.2 + 6) ≤ 2600) (
dw_P_L_loadText n r1 a67.2.1 (fun (r69 : Int32 × dw_S) =>
tw_jn (fun (a70 : Option Nat) =>
pw_ck ((a67.2.2.1 + 1) ≤ 300 ∧ (a67.2.2.2 + 6) ≤ 2600) (Q (a70, r69.2))) (fun (j71 : (Option Nat) → Prop) =>
if ¬ r69.1 = v62 then (j71 none)
else (j71 (some q21))))))
else (pw_ck (dw_is a67.2.1 q21 13) (
pw_nn (dw_r a67.2.1 q21 6) (fun (r72 : Nat) =>
pw_ck ((a67.2.2.1 + 60) ≤ 300 ∧ (a67.2.2.2 + 500) ≤ 2600) (
dw_P_L_randomClue n r1 r2 v54 a67.2.1 (fun (r73 : Nat × dw_S) =>
pw_ck (dw_is r73.2 r72 24 ∧ tw_ok a67.1 (dw_l r73.2 r72) = true ∧ ∀ v, (some r73.1) = some v → dw_is r73.2 v 12) (pw_lt (dw_pr r73.2 r72 (Int32.toNatClampNeg a67.1) (some r73.1)) (fun (Y74 : dw_S) =>
pw_lt (a67.1 + (1 : Int32)) (fun (v75 : Int32) =>
k68 (v75, Y74, (a67.2.2.1 + 60), (a67.2.2.2 + 500))))))))))) n (v66, Y65, (a59.2.1 + 1), (a59.2.2 + (Int32.toNatClampNeg v62))))))))))))) (fun (j60 : (dw_S × Nat × Nat) → Prop) =>
if ¬ r58.1 = 0 then (j60 (r58.2, a56.2.2.1, a56.2.2.2))
else (pw_ck (dw_is r58.2 q21 13) (
pw_nn (dw_r r58.2 q21 4) (fun (r76 : Nat) =>
pw_ck (dw_is r58.2 r76 20 ∧ tw_ok (0 : Int32) (dw_l r58.2 r76) = true) (
pw_ck (dw_is r58.2 q21 13) (pw_lt (dw_pi r58.2 q21 7 (dw_i r58.2 r76 (Int32.toNatClampNeg (0 : Int32)))) (fun (Y77 : dw_S) =>
pw_ck ((¬ (2 : Int32) < 0 ∧ (Int32.toNatClampNeg (2 : Int32)) ≤ 10000) ∧ (a56.2.2.1 + 1) ≤ 300 ∧ (a56.2.2.2 + (Int32.toNatClampNeg (2 : Int32))) ≤ 2600) (
pw_al (dw_n Y77) (fun (q78 : Nat) => pw_lt (dw_nw Y77 q78 20 (Int32.toNatClampNeg (2 : Int32)) (fun _ => 0) (fun _ => none)) (fun (Y79 : dw_S) =>
pw_ck (dw_is Y79 q21 13) (
pw_ck (dw_is Y79 q21 13) (
pw_ck (¬ (dw_i Y79 q21 0) = 0) (
pw_ck (dw_is Y79 q78 20 ∧ tw_ok (0 : Int32) (dw_l Y79 q78) = true) (pw_lt (dw_pi Y79 q78 (Int32.toNatClampNeg (0 : Int32)) ((dw_i Y79 q21 7) - (dw_i Y79 q21 7) / (dw_i Y79 q21 0) * (dw_i Y79 q21 0))) (fun (Y80 : dw_S) =>
pw_ck (dw_is Y80 q21 13) (
pw_ck (dw_is Y80 q21 13) (
pw_ck (¬ (dw_i Y80 q21 0) = 0) (
pw_ck (dw_is Y80 q78 20 ∧ tw_ok (1 : Int32) (dw_l Y80 q78) = true) (pw_lt (dw_pi Y80 q78 (Int32.toNatClampNeg (1 : Int32)) ((dw_i Y80 q21 7) / (dw_i Y80 q21 0))) (fun (Y81 : dw_S) =>
pw_ck ((a56.2.2.1 + 1) ≤ 300 ∧ (a56.2.2.2 + (Int32.toNatClampNeg (2 : Int32))) ≤ 2600) (
dw_P_L_writeAll n r1 3 q78 Y81 (fun (r82 : dw_S) =>
pw_ck ((a56.2.2.1 + 1) ≤ 300 ∧ (a56.2.2.2 + (Int32.toNatClampNeg (2 : Int32))) ≤ 2600) (
dw_P_L_write n r1 29 r82 (fun (r83 : dw_S) =>
j60 (r83, (a56.2.2.1 + 1), (a56.2.2.2 + (Int32.toNatClampNeg (2 : Int32)))))))))))))))))))))))))))))))
else (pw_ck (dw_is a56.2.1 r2 15 ∧ a56.2.2.1 ≤ 300 ∧ a56.2.2.2 ≤ 2600) (
dw_P_X15_below r2 v28 a56.2.1 (fun (r84 : Int32 × dw_S) =>
pw_lt r84.1 (fun (v85 : Int32) =>
pw_lp (fun (k87 : (Int32 × Int32 × Nat × Nat) → Prop) (a86 : Int32 × Int32 × Nat × Nat) =>
pw_ck (dw_is r84.2 q21 13) (
pw_nn (dw_r r84.2 q21 2) (fun (r88 : Nat) =>
pw_ck (dw_is r84.2 r88 21 ∧ tw_ok a86.2.1 (dw_l r84.2 r88) = true) (
if (dw_i r84.2 r88 (Int32.toNatClampNeg a86.2.1)) = 0 then (pw_ck (dw_is r84.2 q21 13) (
pw_nn (dw_r r84.2 q21 4) (fun (r89 : Nat) =>
pw_ck (dw_is r84.2 r89 20 ∧ tw_ok a86.1 (dw_l r84.2 r89) = true) (pw_lt (dw_pi r84.2 r89 (Int32.toNatClampNeg a86.1) a86.2.1) (fun (Y90 : dw_S) =>
pw_ck ((a86.2.2.1 + 1) ≤ 300 ∧ (a86.2.2.2 + 4) ≤ 2600) (
pw_al (dw_n Y90) (fun (q91 : Nat) => pw_lt (dw_nw Y90 q91 17 0 (fun _ => 0) (fun _ => none)) (fun (Y92 : dw_S) =>
pw_ck (((a86.2.2.1 + 1) + 1) ≤ 300 ∧ ((a86.2.2.2 + 4) + 16) ≤ 2600) (
dw_P_J4_init_da8c8 q91 Y92 (fun (r93 : dw_S) =>
pw_ck (dw_is r93 q91 17 ∧ ((a86.2.2.1 + 1) + 1) ≤ 300 ∧ ((a86.2.2.2 + 4) + 16) ≤ 2600) (
dw_P_J4_append_15ec4 q91 32 r93 (fun (r94 : Nat × dw_S) =>
pw_ck (dw_is r94.2 r94.1 17 ∧ ((a86.2.2.1 + 1) + 1) ≤ 300 ∧ ((a86.2.2.2 + 4) + 16) ≤ 2600) (
dw_P_J4_append_cf468 r94.1 ((Int32.toUInt32 ((97 : Int32) + a86.1) % 65536).toInt32) r94.2 (fun (r95 : Nat × dw_S) =>
pw_ck (dw_is r95.2 r95.1 17 ∧ (((a86.2.2.1 + 1) + 1) + 2) ≤ 300 ∧ (((a86.2.2.2 + 4) + 16) + 36) ≤ 2600) (
dw_P_J4_toString_0e30d r95.1 r95.2 (fun (r96 : Nat × dw_S) =>
pw_ck ((¬ (2 : Int32) < 0 ∧ (Int32.toNatClampNeg (2 : Int32)) ≤ 10000) ∧ ((((a86.2.2.1 + 1) + 1) + 2) + 1) ≤ 300 ∧ ((((a86.2.2.2 + 4) + 16) + 36) + (Int32.toNatClampNeg (2 : Int32))) ≤ 2600) (
pw_al (dw_n r96.2) (fun (q97 : Nat) => pw_lt (dw_nw r96.2 q97 20 (Int32.toNatClampNeg (2 : Int32)) (fun _ => 0) (fun _ => none)) (fun (Y98 : dw_S) =>
pw_ck (dw_is Y98 q21 13) (
pw_ck (¬ (dw_i Y98 q21 0) = 0) (
pw_ck (dw_is Y98 q97 20 ∧ tw_ok (0 : Int32) (dw_l Y98 q97) = true) (pw_lt (dw_pi Y98 q97 (Int32.toNatClampNeg (0 : Int32)) (a86.2.1 - a86.2.1 / (dw_i Y98 q21 0) * (dw_i Y98 q21 0))) (fun (Y99 : dw_S) =>
pw_ck (dw_is Y99 q21 13) (
pw_ck (¬ (dw_i Y99 q21 0) = 0) (
pw_ck (dw_is Y99 q97 20 ∧ tw_ok (1 : Int32) (dw_l Y99 q97) = true) (pw_lt (dw_pi Y99 q97 (Int32.toNatClampNeg (1 : Int32)) (a86.2.1 / (dw_i Y99 q21 0))) (fun (Y100 : dw_S) =>
pw_ck (((((a86.2.2.1 + 1) + 1) + 2) + 1) ≤ 300 ∧ ((((a86.2.2.2 + 4) + 16) + 36) + (Int32.toNatClampNeg (2 : Int32))) ≤ 2600) (
dw_P_L_writeAlld n r1 r96.1 q97 Y100 (fun (r101 : dw_S) =>
pw_ck (((((a86.2.2.1 + 1) + 1) + 2) + 1) ≤ 300 ∧ ((((a86.2.2.2 + 4) + 16) + 36) + (Int32.toNatClampNeg (2 : Int32))) ≤ 2600) (
dw_P_L_write n r1 29 r101 (fun (r102 : dw_S) =>
pw_lt (a86.1 + (1 : Int32)) (fun (v103 : Int32) =>
k57 (v103, r102, ((((a86.2.2.1 + 1) + 1) + 2) + 1), ((((a86.2.2.2 + 4) + 16) + 36) + (Int32.toNatClampNeg (2 : Int32))))))))))))))))))))))))))))))))))))
else (pw_ck (¬ v28 = 0) (
pw_lt ((a86.2.1 + (1 : Int32)) - (a86.2.1 + (1 : Int32)) / v28 * v28) (fun (v104 : Int32) =>
k87 (a86.1, v104, a86.2.2.1, a86.2.2.2)))))))) n (a56.1, v85, a56.2.2.1, a56.2.2.2)))))) n (v55, r53.2, a51.2.2.1, a51.2.2.2))))))
else (pw_ck (dw_is a51.2.1 q21 13) (
pw_ck (dw_is a51.2.1 r2 15 ∧ a51.2.2.1 ≤ 300 ∧ a51.2.2.2 ≤ 2600) (
dw_P_X15_below r2 (dw_i a51.2.1 q21 0) a51.2.1 (fun (r105 : Int32 × dw_S) =>
pw_lt r105.1 (fun (v106 : Int32) =>
pw_ck (dw_is r105.2 q21 13) (
pw_ck (dw_is r105.2 r2 15 ∧ a51.2.2.1 ≤ 300 ∧ a51.2.2.2 ≤ 2600) (
dw_P_X15_below r2 (dw_i r105.2 q21 1) r105.2 (fun (r107 : Int32 × dw_S) =>
pw_lt r107.1 (fun (v108 : Int32) =>
pw_ck ((¬ (5 : Int32) < 0 ∧ (Int32.toNatClampNeg (5 : Int32)) ≤ 10000) ∧ (a51.2.2.1 + 1) ≤ 300 ∧ (a51.2.2.2 + (Int32.toNatClampNeg (5 : Int32))) ≤ 2600) (
pw_al (dw_n r107.2) (fun (q109 : Nat) => pw_lt (dw_nw r107.2 q109 20 (Int32.toNatClampNeg (5 : Int32)) (fun _ => 0) (fun _ => none)) (fun (Y110 : dw_S) =>
pw_ck (dw_is Y110 q109 20 ∧ tw_ok (0 : Int32) (dw_l Y110 q109) = true) (pw_lt (dw_pi Y110 q109 (Int32.toNatClampNeg (0 : Int32)) v106) (fun (Y111 : dw_S) =>
pw_ck (dw_is Y111 q109 20 ∧ tw_ok (1 : Int32) (dw_l Y111 q109) = true) (pw_lt (dw_pi Y111 q109 (Int32.toNatClampNeg (1 : Int32)) v108) (fun (Y112 : dw_S) =>
pw_ck (dw_is Y112 q21 13) (
pw_ck (dw_is Y112 r2 15 ∧ (a51.2.2.1 + 1) ≤ 300 ∧ (a51.2.2.2 + (Int32.toNatClampNeg (5 : Int32))) ≤ 2600) (
dw_P_X15_below r2 ((dw_i Y112 q21 0) - v106) Y112 (fun (r113 : Int32 × dw_S) =>
pw_ck (dw_is r113.2 q109 20 ∧ tw_ok (2 : Int32) (dw_l r113.2 q109) = true) (pw_lt (dw_pi r113.2 q109 (Int32.toNatClampNeg (2 : Int32)) (v106 + r113.1)) (fun (Y114 : dw_S) =>
pw_ck (dw_is Y114 q21 13) (
pw_ck (dw_is Y114 r2 15 ∧ (a51.2.2.1 + 1) ≤ 300 ∧ (a51.2.2.2 + (Int32.toNatClampNeg (5 : Int32))) ≤ 2600) (
dw_P_X15_below r2 ((dw_i Y114 q21 1) - v108) Y114 (fun (r115 : Int32 × dw_S) =>
pw_ck (dw_is r115.2 q109 20 ∧ tw_ok (3 : Int32) (dw_l r115.2 q109) = true) (pw_lt (dw_pi r115.2 q109 (Int32.toNatClampNeg (3 : Int32)) (v108 + r115.1)) (fun (Y116 : dw_S) =>
pw_ck (dw_is Y116 r2 15 ∧ (a51.2.2.1 + 1) ≤ 300 ∧ (a51.2.2.2 + (Int32.toNatClampNeg (5 : Int32))) ≤ 2600) (
dw_P_X15_below r2 (2 : Int32) Y116 (fun (r117 : Int32 × dw_S) =>
tw_jn (fun (a118 : Int32 × dw_S) =>
pw_ck (dw_is a118.2 q109 20 ∧ tw_ok (4 : Int32) (dw_l a118.2 q109) = true) (pw_lt (dw_pi a118.2 q109 (Int32.toNatClampNeg (4 : Int32)) a118.1) (fun (Y120 : dw_S) =>
pw_ck (dw_is Y120 q21 13) (
pw_nn (dw_r Y120 q21 5) (fun (r121 : Nat) =>
pw_ck (dw_is Y120 r121 26 ∧ tw_ok a51.1 (dw_l Y120 r121) = true ∧ dw_is Y120 q109 20) (pw_lt (dw_pr Y120 r121 (Int32.toNatClampNeg a51.1) (some q109)) (fun (Y122 : dw_S) =>
pw_ck ((¬ (4 : Int32) < 0 ∧ (Int32.toNatClampNeg (4 : Int32)) ≤ 10000) ∧ ((a51.2.2.1 + 1) + 1) ≤ 300 ∧ ((a51.2.2.2 + (Int32.toNatClampNeg (5 : Int32))) + (Int32.toNatClampNeg (4 : Int32))) ≤ 2600) (
pw_al (dw_n Y122) (fun (q123 : Nat) => pw_lt (dw_nw Y122 q123 20 (Int32.toNatClampNeg (4 : Int32)) (fun _ => 0) (fun _ => none)) (fun (Y124 : dw_S) =>
pw_ck (dw_is Y124 q109 20 ∧ tw_ok (0 : Int32) (dw_l Y124 q109) = true) (
pw_ck (dw_is Y124 q123 20 ∧ tw_ok (0 : Int32) (dw_l Y124 q123) = true) (pw_lt (dw_pi Y124 q123 (Int32.toNatClampNeg (0 : Int32)) (dw_i Y124 q109 (Int32.toNatClampNeg (0 : Int32)))) (fun (Y125 : dw_S) =>
pw_ck (dw_is Y125 q109 20 ∧ tw_ok (1 : Int32) (dw_l Y125 q109) = true) (
pw_ck (dw_is Y125 q123 20 ∧ tw_ok (1 : Int32) (dw_l Y125 q123) = true) (pw_lt (dw_pi Y125 q123 (Int32.toNatClampNeg (1 : Int32)) (dw_i Y125 q109 (Int32.toNatClampNeg (1 : Int32)))) (fun (Y126 : dw_S) =>
pw_ck (dw_is Y126 q109 20 ∧ tw_ok (2 : Int32) (dw_l Y126 q109) = true) (
pw_ck (dw_is Y126 q123 20 ∧ tw_ok (2 : Int32) (dw_l Y126 q123) = true) (pw_lt (dw_pi Y126 q123 (Int32.toNatClampNeg (2 : Int32)) (dw_i Y126 q109 (Int32.toNatClampNeg (2 : Int32)))) (fun (Y127 : dw_S) =>
pw_ck (dw_is Y127 q109 20 ∧ tw_ok (3 : Int32) (dw_l Y127 q109) = true) (
pw_ck (dw_is Y127 q123 20 ∧ tw_ok (3 : Int32) (dw_l Y127 q123) = true) (pw_lt (dw_pi Y127 q123 (Int32.toNatClampNeg (3 : Int32)) (dw_i Y127 q109 (Int32.toNatClampNeg (3 : Int32)))) (fun (Y128 : dw_S) =>
pw_ck (((a51.2.2.1 + 1) + 1) ≤ 300 ∧ ((a51.2.2.2 + (Int32.toNatClampNeg (5 : Int32))) + (Int32.toNatClampNeg (4 : Int32))) ≤ 2600) (
dw_P_L_writeAll n r1 1 q123 Y128 (fun (r129 : dw_S) =>
pw_ck (dw_is r129 q109 20 ∧ tw_ok (4 : Int32) (dw_l r129 q109) = true) (
tw_jn (fun (a130 : Nat) =>
pw_ck (a130 < 33) (
pw_ck ((¬ (1 : Int32) < 0 ∧ (Int32.toNatClampNeg (1 : Int32)) ≤ 10000) ∧ (((a51.2.2.1 + 1) + 1) + 1) ≤ 300 ∧ (((a51.2.2.2 + (Int32.toNatClampNeg (5 : Int32))) + (Int32.toNatClampNeg (4 : Int32))) + (Int32.toNatClampNeg (1 : Int32))) ≤ 2600) (
pw_al (dw_n r129) (fun (q133 : Nat) => pw_lt (dw_nw r129 q133 20 (Int32.toNatClampNeg (1 : Int32)) (fun _ => 0) (fun _ => none)) (fun (Y134 : dw_S) =>
pw_ck (dw_is Y134 q109 20 ∧ tw_ok (4 : Int32) (dw_l Y134 q109) = true) (
pw_ck ((((a51.2.2.1 + 1) + 1) + 1) ≤ 300 ∧ (((a51.2.2.2 + (Int32.toNatClampNeg (5 : Int32))) + (Int32.toNatClampNeg (4 : Int32))) + (Int32.toNatClampNeg (1 : Int32))) ≤ 2600) (
pw_ck (dw_is Y134 q133 20 ∧ tw_ok (0 : Int32) (dw_l Y134 q133) = true) (pw_lt (dw_pi Y134 q133 (Int32.toNatClampNeg (0 : Int32)) (if 0 ≤ (dw_i Y134 q109 (Int32.toNatClampNeg (4 : Int32))) then (dw_i Y134 q109 (Int32.toNatClampNeg (4 : Int32))) else 0 - (dw_i Y134 q109 (Int32.toNatClampNeg (4 : Int32))))) (fun (Y136 : dw_S) =>
pw_ck ((((a51.2.2.1 + 1) + 1) + 1) ≤ 300 ∧ (((a51.2.2.2 + (Int32.toNatClampNeg (5 : Int32))) + (Int32.toNatClampNeg (4 : Int32))) + (Int32.toNatClampNeg (1 : Int32))) ≤ 2600) (
dw_P_L_writeAll n r1 a130 q133 Y136 (fun (r137 : dw_S) =>
pw_ck ((((a51.2.2.1 + 1) + 1) + 1) ≤ 300 ∧ (((a51.2.2.2 + (Int32.toNatClampNeg (5 : Int32))) + (Int32.toNatClampNeg (4 : Int32))) + (Int32.toNatClampNeg (1 : Int32))) ≤ 2600) (
dw_P_L_write n r1 29 r137 (fun (r138 : dw_S) =>
pw_lt (a51.1 + (1 : Int32)) (fun (v139 : Int32) =>
k52 (v139, r138, (((a51.2.2.1 + 1) + 1) + 1), (((a51.2.2.2 + (Int32.toNatClampNeg (5 : Int32))) + (Int32.toNatClampNeg (4 : Int32))) + (Int32.toNatClampNeg (1 : Int32)))))))))))))))))) (fun (j131 : (Nat) → Prop) =>
if 0 ≤ (dw_i r129 q109 (Int32.toNatClampNeg (4 : Int32))) then (j131 31)
else (j131 30))))))))))))))))))))))))))) (fun (j119 : (Int32 × dw_S) → Prop) =>
if ¬ r117.1 = 0 then (pw_ck (dw_is r117.2 r2 15 ∧ (a51.2.2.1 + 1) ≤ 300 ∧ (a51.2.2.2 + (Int32.toNatClampNeg (5 : Int32))) ≤ 2600) (
dw_P_X15_below r2 (3 : Int32) r117.2 (fun (r140 : Int32 × dw_S) =>
j119 (((-1 : Int32) - r140.1), r140.2))))
else (pw_ck (dw_is r117.2 r2 15 ∧ (a51.2.2.1 + 1) ≤ 300 ∧ (a51.2.2.2 + (Int32.toNatClampNeg (5 : Int32))) ≤ 2600) (
dw_P_X15_below r2 (3 : Int32) r117.2 (fun (r141 : Int32 × dw_S) =>
j119 (((1 : Int32) + r141.1), r141.2)))))))))))))))))))))))))))))))))) n (v50, Y49, (a43.2.2.1 + 1), (a43.2.2.2 + (Int32.toNatClampNeg v46)))))))))))))
else (pw_ck (dw_is a43.2.1 r2 15 ∧ a43.2.2.1 ≤ 300 ∧ a43.2.2.2 ≤ 2600) (
dw_P_X15_below r2 (v28 - (1 : Int32)) a43.2.1 (fun (r142 : Int32 × dw_S) =>
pw_lt ((1 : Int32) + r142.1) (fun (v143 : Int32) =>
pw_ck (dw_is r142.2 q21 13) (
pw_nn (dw_r r142.2 q21 2) (fun (r144 : Nat) =>
pw_ck (dw_is r142.2 r144 21 ∧ tw_ok v143 (dw_l r142.2 r144) = true) (pw_lt (dw_pi r142.2 r144 (Int32.toNatClampNeg v143) (vp_nar .boolean (1 : Int32))) (fun (Y145 : dw_S) =>
pw_ck ((¬ (4 : Int32) < 0 ∧ (Int32.toNatClampNeg (4 : Int32)) ≤ 10000) ∧ (a43.2.2.1 + 1) ≤ 300 ∧ (a43.2.2.2 + (Int32.toNatClampNeg (4 : Int32))) ≤ 2600) (
pw_al (dw_n Y145) (fun (q146 : Nat) => pw_lt (dw_nw Y145 q146 20 (Int32.toNatClampNeg (4 : Int32)) (fun _ => 0) (fun _ => none)) (fun (Y147 : dw_S) =>
pw_ck (dw_is Y147 q21 13) (
pw_ck (¬ (dw_i Y147 q21 0) = 0) (
pw_ck (dw_is Y147 q146 20 ∧ tw_ok (0 : Int32) (dw_l Y147 q146) = true) (pw_lt (dw_pi Y147 q146 (Int32.toNatClampNeg (0 : Int32)) (v143 - v143 / (dw_i Y147 q21 0) * (dw_i Y147 q21 0))) (fun (Y148 : dw_S) =>
pw_ck (dw_is Y148 q21 13) (
pw_ck (¬ (dw_i Y148 q21 0) = 0) (
pw_ck (dw_is Y148 q146 20 ∧ tw_ok (1 : Int32) (dw_l Y148 q146) = true) (pw_lt (dw_pi Y148 q146 (Int32.toNatClampNeg (1 : Int32)) (v143 / (dw_i Y148 q21 0))) (fun (Y149 : dw_S) =>
pw_ck (dw_is Y149 q21 13) (
pw_ck (¬ (dw_i Y149 q21 0) = 0) (
pw_ck (dw_is Y149 q146 20 ∧ tw_ok (2 : Int32) (dw_l Y149 q146) = true) (pw_lt (dw_pi Y149 q146 (Int32.toNatClampNeg (2 : Int32)) (v143 - v143 / (dw_i Y149 q21 0) * (dw_i Y149 q21 0))) (fun (Y150 : dw_S) =>
pw_ck (dw_is Y150 q21 13) (
pw_ck (¬ (dw_i Y150 q21 0) = 0) (
pw_ck (dw_is Y150 q146 20 ∧ tw_ok (3 : Int32) (dw_l Y150 q146) = true) (pw_lt (dw_pi Y150 q146 (Int32.toNatClampNeg (3 : Int32)) (v143 / (dw_i Y150 q21 0))) (fun (Y151 : dw_S) =>
pw_ck ((a43.2.2.1 + 1) ≤ 300 ∧ (a43.2.2.2 + (Int32.toNatClampNeg (4 : Int32))) ≤ 2600) (
dw_P_L_writeAll n r1 0 q146 Y151 (fun (r152 : dw_S) =>
pw_ck ((a43.2.2.1 + 1) ≤ 300 ∧ (a43.2.2.2 + (Int32.toNatClampNeg (4 : Int32))) ≤ 2600) (
dw_P_L_write n r1 29 r152 (fun (r153 : dw_S) =>
pw_lt (a43.1 + (-1 : Int32)) (fun (v154 : Int32) =>
k44 (v154, r153, (a43.2.2.1 + 1), (a43.2.2.2 + (Int32.toNatClampNeg (4 : Int32))))))))))))))))))))))))))))))))))))) n (v42, r41.2, 10, (((32 + (Int32.toNatClampNeg v28)) + (Int32.toNatClampNeg v28)) + (Int32.toNatClampNeg (2 : Int32))))))))))))))))))))))))))))))))))))))))))))
theorem dw_y_L_randomIsland : tw_My yL_randomIsland cL_randomIsland 10 (some (.object "TreasureWalkLaw$Island")) 3 := ⟨List.mem_of_getElem? dw_w1237, List.mem_of_getElem? dw_w35, by decide +kernel, by decide +kernel, by decide +kernel⟩
theorem dw_v_L_randomIsland : tw_Ms yL_randomIsland := List.mem_of_getElem? dw_w1236
set_option maxRecDepth 100000 in
set_option maxHeartbeats 40000000 in
theorem dw_m_L_randomIsland {l : Launch} {b : Nat} {D : tw_G} {C : Nat → ClassId} {S : Nat → Nat} (hD : D.2 = []) {n : Nat} {r1 : Nat} {r2 : Nat} {Y : dw_S} {Q : Option Nat × dw_S → Prop} (hst : l.stackTraces = false)  (h : dw_P_L_randomIsland n r1 r2 Y Q) : dw_Met l b D C S yL_randomIsland cL_randomIsland 10 (some (.object "TreasureWalkLaw$Island")) ({ frames := 14, cells := 300, slots := 2600, locals := 301 } : Room) [.ref (b + 0), .ref (b + r1), .ref (b + r2)] Y (fun r => some (dw_v b r.1)) (fun r => r.2) Q := by
  refine dw_metOf (dw_P_L_randomIsland n r1 r2 Y Q) h _ _ Q (by decide +kernel) (Nat.le_of_ble_eq_true rfl) ?_
  intro z el eB eD eC eS eR X hA hnm hret hQ
  subst el eD eC eS
  have hb : tw_zB z ≤ b := Nat.le_of_eq eB
  have hA : dw_AK (tw_zB z) (tw_zS z) (tw_zs z) := by rw [eB]; exact hA
  have hfr : (tw_zR z).frames = 14 := by rw [eR]
  have hlo : (tw_zR z).locals = 301 := by rw [eR]
  have eMC : (tw_zR z).cells = 300 := by rw [eR]
  have eMS : (tw_zR z).slots = 2600 := by rw [eR]
  have X : tw_X z cL_randomIsland "TreasureWalkLaw" 10 := X
  show dw_Rf (tw_cz z 0 0) b _ Y 0 [(0, .ref (b + 0)), (1, .ref (b + r1)), (2, .ref (b + r2))] []
  unfold dw_P_L_randomIsland
  refine dw_ckp (by exact ⟨Nat.le_of_ble_eq_true rfl, Nat.le_of_ble_eq_true rfl⟩) (e_new (ci := 13) (T := TX13) (N := 13) (c := 0) (s := 0) (z := tw_cz z 0 0) (dw_zX X) dw_z0 (dw_zM eMC eMS) dL_randomIsland_0 _ dw_w580 (List.mem_of_getElem? dw_w581) (List.mem_of_getElem? dw_w50) dw_in13 tyX13 tyX13_ok rfl dw_df13 (by decide) (fun a => dw_fr13) (fun q21 Y22 => ?_))
  show dw_Rf (tw_cz z 1 13) b _ Y22 _ [(0, .ref (b + 0)), (1, .ref (b + r1)), (2, .ref (b + r2))] [.ref (b + q21)]
  refine e_dup (z := tw_cz z 1 13) (dw_zX X) dL_randomIsland_3 rfl ?_
  refine dw_ckp (by exact ⟨Nat.le_of_ble_eq_true rfl, Nat.le_of_ble_eq_true rfl⟩) (e_callIN (c := 1) (s := 13) (As := []) (z := tw_cz z 1 13) (dw_zX X) (dw_zA hA) (dw_zb hb) (dw_zD hD) dw_z0 (dw_zM eMC eMS) dL_randomIsland_4 (fun Q h => dw_m_X13_init (dw_zD hD) h) dw_y_X13_init dw_v_X13_init rfl _ dw_w582 rfl ⟨dw_zf hfr rfl, dw_zl hlo rfl⟩ (Nat.le_of_ble_eq_true rfl) rfl (fun r23 => ?_))
  show dw_Rf (tw_cz z 7 32) b _ r23 _ [(0, .ref (b + 0)), (1, .ref (b + r1)), (2, .ref (b + r2))] [.ref (b + q21)]
  refine e_astore_n (z := tw_cz z 7 32) (dw_zX X) dL_randomIsland_7 rfl (by decide) (L' := [(3, .ref (b + q21)), (0, .ref (b + 0)), (1, .ref (b + r1)), (2, .ref (b + r2))]) rfl ?_
  refine e_aload_n (z := tw_cz z 7 32) (dw_zX X) dL_randomIsland_8 rfl 0 rfl ?_
  refine e_iconst (z := tw_cz z 7 32) (dw_zX X) dL_randomIsland_9 (v := (2 : Int32)) (by decide) ?_
  refine e_aload_n (z := tw_cz z 7 32) (dw_zX X) dL_randomIsland_10 rfl 3 rfl ?_
  refine e_iconst (z := tw_cz z 7 32) (dw_zX X) dL_randomIsland_11 (v := (5 : Int32)) (by decide) ?_
  refine dw_ckq (by exact ⟨Nat.le_of_ble_eq_true rfl, Nat.le_of_ble_eq_true rfl⟩) (e_callV (k := r2) (ci := 15) (Cn := "TreasureWalkLaw$Random") (T := TX15) (N := 1) (c := 7) (s := 32) (As := [.int (5 : Int32)]) (z := tw_cz z 7 32) (dw_zX X) (dw_zA hA) (dw_zb hb) (dw_zD hD) dw_z0 (dw_zM eMC eMS) dL_randomIsland_12 (fun Q h => dw_m_X15_below (dw_zD hD) h) dw_y_X15_below dw_v_X15_below _ dw_w743 (by decide) rfl (fun h => dw_E15 h) rfl ⟨dw_zf hfr rfl, dw_zl hlo rfl⟩ (Nat.le_of_ble_eq_true rfl) rfl (fun r24 => ?_))
  show dw_Rf (tw_cz z 7 32) b _ r24.2 _ [(3, .ref (b + q21)), (0, .ref (b + 0)), (1, .ref (b + r1)), (2, .ref (b + r2))] [.int r24.1, .int (2 : Int32), .ref (b + q21)]
  refine e_iadd (z := tw_cz z 7 32) (dw_zX X) dL_randomIsland_15 ?_
  show dw_Rf (tw_cz z 7 32) b _ r24.2 _ [(3, .ref (b + q21)), (0, .ref (b + 0)), (1, .ref (b + r1)), (2, .ref (b + r2))] (.int ((2 : Int32) + r24.1) :: .ref (b + q21) :: [])
  refine e_put (ci := 13) (T := TX13) (f := 0) (ty := .int) (k := q21) (z := tw_cz z 7 32) (dw_zX X) (dw_zb hb) dL_randomIsland_16 (Or.inl ⟨_, dw_w591⟩) dw_in13 tyX13 tyX13_ok nmX13 rfl (by decide) rfl (by decide +kernel) rfl rfl (by decide) (fun h => dw_F13 h) (Nat.le_of_ble_eq_true rfl) (fun h => dw_p13_0 h) rfl rfl rfl (fun a ha => dw_E_pi ha) (fun Y25 => ?_)
  refine e_aload_n (z := tw_cz z 7 32) (dw_zX X) dL_randomIsland_19 rfl 0 rfl ?_
  refine e_iconst (z := tw_cz z 7 32) (dw_zX X) dL_randomIsland_20 (v := (2 : Int32)) (by decide) ?_
  refine e_aload_n (z := tw_cz z 7 32) (dw_zX X) dL_randomIsland_21 rfl 3 rfl ?_
  refine e_iconst (z := tw_cz z 7 32) (dw_zX X) dL_randomIsland_22 (v := (4 : Int32)) (by decide) ?_
  refine dw_ckq (by exact ⟨Nat.le_of_ble_eq_true rfl, Nat.le_of_ble_eq_true rfl⟩) (e_callV (k := r2) (ci := 15) (Cn := "TreasureWalkLaw$Random") (T := TX15) (N := 1) (c := 7) (s := 32) (As := [.int (4 : Int32)]) (z := tw_cz z 7 32) (dw_zX X) (dw_zA hA) (dw_zb hb) (dw_zD hD) dw_z0 (dw_zM eMC eMS) dL_randomIsland_23 (fun Q h => dw_m_X15_below (dw_zD hD) h) dw_y_X15_below dw_v_X15_below _ dw_w743 (by decide) rfl (fun h => dw_E15 h) rfl ⟨dw_zf hfr rfl, dw_zl hlo rfl⟩ (Nat.le_of_ble_eq_true rfl) rfl (fun r26 => ?_))
  show dw_Rf (tw_cz z 7 32) b _ r26.2 _ [(3, .ref (b + q21)), (0, .ref (b + 0)), (1, .ref (b + r1)), (2, .ref (b + r2))] [.int r26.1, .int (2 : Int32), .ref (b + q21)]
  refine e_iadd (z := tw_cz z 7 32) (dw_zX X) dL_randomIsland_26 ?_
  show dw_Rf (tw_cz z 7 32) b _ r26.2 _ [(3, .ref (b + q21)), (0, .ref (b + 0)), (1, .ref (b + r1)), (2, .ref (b + r2))] (.int ((2 : Int32) + r26.1) :: .ref (b + q21) :: [])
  refine e_put (ci := 13) (T := TX13) (f := 1) (ty := .int) (k := q21) (z := tw_cz z 7 32) (dw_zX X) (dw_zb hb) dL_randomIsland_27 (Or.inl ⟨_, dw_w593⟩) dw_in13 tyX13 tyX13_ok nmX13 rfl (by decide) rfl (by decide +kernel) rfl rfl (by decide) (fun h => dw_F13 h) (Nat.le_of_ble_eq_true rfl) (fun h => dw_p13_1 h) rfl rfl rfl (fun a ha => dw_E_pi ha) (fun Y27 => ?_)
  refine e_aload_n (z := tw_cz z 7 32) (dw_zX X) dL_randomIsland_30 rfl 0 rfl ?_
  refine e_getf (ci := 13) (T := TX13) (f := 0) (k := q21) (z := tw_cz z 7 32) (dw_zX X) dL_randomIsland_31 (Or.inl ⟨_, dw_w591⟩) dw_in13 rfl (by decide) (by decide) (fun h => dw_E13 h) rfl ?_
  refine e_aload_n (z := tw_cz z 7 32) (dw_zX X) dL_randomIsland_34 rfl 0 rfl ?_
  refine e_getf (ci := 13) (T := TX13) (f := 1) (k := q21) (z := tw_cz z 7 32) (dw_zX X) dL_randomIsland_35 (Or.inl ⟨_, dw_w593⟩) dw_in13 rfl (by decide) (by decide) (fun h => dw_E13 h) rfl ?_
  refine e_imul (z := tw_cz z 7 32) (dw_zX X) dL_randomIsland_38 ?_
  refine e_istore (z := tw_cz z 7 32) (dw_zX X) dL_randomIsland_39 (by decide) (LL := fun v28 => [(4, .int v28), (3, .ref (b + q21)), (0, .ref (b + 0)), (1, .ref (b + r1)), (2, .ref (b + r2))]) (fun _ => rfl) (fun v28 => ?_)
  refine e_aload_n (z := tw_cz z 7 32) (dw_zX X) dL_randomIsland_41 rfl 1 rfl ?_
  refine e_iload (z := tw_cz z 7 32) (dw_zX X) dL_randomIsland_42 0 rfl ?_
  refine e_newz (c := 7) (s := 32) (z := tw_cz z 7 32) (dw_zX X) dw_z0 (dw_zM eMC eMS) dL_randomIsland_44 hA.1.2.1 (fun q29 Y30 => ?_)
  show dw_Rf (tw_cz z 8 (32 + (Int32.toNatClampNeg v28))) b _ Y30 _ [(4, .int v28), (3, .ref (b + q21)), (0, .ref (b + 0)), (1, .ref (b + r1)), (2, .ref (b + r2))] [.ref (b + q29), .ref (b + q21)]
  show dw_Rf (tw_cz z 8 (32 + (Int32.toNatClampNeg v28))) b _ Y30 _ [(4, .int v28), (3, .ref (b + q21)), (0, .ref (b + 0)), (1, .ref (b + r1)), (2, .ref (b + r2))] (dw_v b (some q29) :: .ref (b + q21) :: [])
  refine e_put (ci := 13) (T := TX13) (f := 2) (ty := .array .boolean) (k := q21) (z := tw_cz z 8 (32 + (Int32.toNatClampNeg v28))) (dw_zX X) (dw_zb hb) dL_randomIsland_46 (Or.inl ⟨_, dw_w595⟩) dw_in13 tyX13 tyX13_ok nmX13 rfl (by decide) rfl (by decide +kernel) dw_narrow dw_fitsA (by decide) (fun h => dw_F13 h) (Nat.le_of_ble_eq_true rfl) (fun h => dw_p13_2 h) rfl rfl rfl (fun a ha => dw_E_pr ha) (fun Y31 => ?_)
  refine e_aload_n (z := tw_cz z 8 (32 + (Int32.toNatClampNeg v28))) (dw_zX X) dL_randomIsland_49 rfl 1 rfl ?_
  refine e_iload (z := tw_cz z 8 (32 + (Int32.toNatClampNeg v28))) (dw_zX X) dL_randomIsland_50 0 rfl ?_
  refine e_newz (c := 8) (s := (32 + (Int32.toNatClampNeg v28))) (z := tw_cz z 8 (32 + (Int32.toNatClampNeg v28))) (dw_zX X) dw_z0 (dw_zM eMC eMS) dL_randomIsland_52 hA.1.2.1 (fun q32 Y33 => ?_)
  show dw_Rf (tw_cz z 9 ((32 + (Int32.toNatClampNeg v28)) + (Int32.toNatClampNeg v28))) b _ Y33 _ [(4, .int v28), (3, .ref (b + q21)), (0, .ref (b + 0)), (1, .ref (b + r1)), (2, .ref (b + r2))] [.ref (b + q32), .ref (b + q21)]
  show dw_Rf (tw_cz z 9 ((32 + (Int32.toNatClampNeg v28)) + (Int32.toNatClampNeg v28))) b _ Y33 _ [(4, .int v28), (3, .ref (b + q21)), (0, .ref (b + 0)), (1, .ref (b + r1)), (2, .ref (b + r2))] (dw_v b (some q32) :: .ref (b + q21) :: [])
  refine e_put (ci := 13) (T := TX13) (f := 3) (ty := .array .boolean) (k := q21) (z := tw_cz z 9 ((32 + (Int32.toNatClampNeg v28)) + (Int32.toNatClampNeg v28))) (dw_zX X) (dw_zb hb) dL_randomIsland_54 (Or.inl ⟨_, dw_w597⟩) dw_in13 tyX13 tyX13_ok nmX13 rfl (by decide) rfl (by decide +kernel) dw_narrow dw_fitsA (by decide) (fun h => dw_F13 h) (Nat.le_of_ble_eq_true rfl) (fun h => dw_p13_3 h) rfl rfl rfl (fun a ha => dw_E_pr ha) (fun Y34 => ?_)
  refine e_aload_n (z := tw_cz z 9 ((32 + (Int32.toNatClampNeg v28)) + (Int32.toNatClampNeg v28))) (dw_zX X) dL_randomIsland_57 rfl 2 rfl ?_
  refine e_aload_n (z := tw_cz z 9 ((32 + (Int32.toNatClampNeg v28)) + (Int32.toNatClampNeg v28))) (dw_zX X) dL_randomIsland_58 rfl 3 rfl ?_
  refine e_ldcS (z := tw_cz z 9 ((32 + (Int32.toNatClampNeg v28)) + (Int32.toNatClampNeg v28))) (dw_zX X) dL_randomIsland_59 (j := 5) tw_l_W_193 ?_
  refine e_iconst (z := tw_cz z 9 ((32 + (Int32.toNatClampNeg v28)) + (Int32.toNatClampNeg v28))) (dw_zX X) dL_randomIsland_61 (v := (2 : Int32)) (by decide) ?_
  refine e_newi (c := 9) (s := ((32 + (Int32.toNatClampNeg v28)) + (Int32.toNatClampNeg v28))) (z := tw_cz z 9 ((32 + (Int32.toNatClampNeg v28)) + (Int32.toNatClampNeg v28))) (dw_zX X) dw_z0 (dw_zM eMC eMS) dL_randomIsland_62 hA.1.1 (fun q35 Y36 => ?_)
  show dw_Rf (tw_cz z 10 (((32 + (Int32.toNatClampNeg v28)) + (Int32.toNatClampNeg v28)) + (Int32.toNatClampNeg (2 : Int32)))) b _ Y36 _ [(4, .int v28), (3, .ref (b + q21)), (0, .ref (b + 0)), (1, .ref (b + r1)), (2, .ref (b + r2))] [.ref (b + q35), .ref (tw_zS z 5), .ref (b + r1), .ref (b + 0)]
  refine e_dup (z := tw_cz z 10 (((32 + (Int32.toNatClampNeg v28)) + (Int32.toNatClampNeg v28)) + (Int32.toNatClampNeg (2 : Int32)))) (dw_zX X) dL_randomIsland_64 rfl ?_
  refine e_iconst (z := tw_cz z 10 (((32 + (Int32.toNatClampNeg v28)) + (Int32.toNatClampNeg v28)) + (Int32.toNatClampNeg (2 : Int32)))) (dw_zX X) dL_randomIsland_65 (v := (0 : Int32)) (by decide) ?_
  refine e_aload_n (z := tw_cz z 10 (((32 + (Int32.toNatClampNeg v28)) + (Int32.toNatClampNeg v28)) + (Int32.toNatClampNeg (2 : Int32)))) (dw_zX X) dL_randomIsland_66 rfl 1 rfl ?_
  refine e_getf (ci := 13) (T := TX13) (f := 0) (k := q21) (z := tw_cz z 10 (((32 + (Int32.toNatClampNeg v28)) + (Int32.toNatClampNeg v28)) + (Int32.toNatClampNeg (2 : Int32)))) (dw_zX X) dL_randomIsland_67 (Or.inl ⟨_, dw_w591⟩) dw_in13 rfl (by decide) (by decide) (fun h => dw_E13 h) rfl ?_
  refine e_iast (k := q35) (z := tw_cz z 10 (((32 + (Int32.toNatClampNeg v28)) + (Int32.toNatClampNeg v28)) + (Int32.toNatClampNeg (2 : Int32)))) (dw_zX X) (dw_zb hb) dL_randomIsland_70 (fun Y37 => ?_)
  refine e_dup (z := tw_cz z 10 (((32 + (Int32.toNatClampNeg v28)) + (Int32.toNatClampNeg v28)) + (Int32.toNatClampNeg (2 : Int32)))) (dw_zX X) dL_randomIsland_71 rfl ?_
  refine e_iconst (z := tw_cz z 10 (((32 + (Int32.toNatClampNeg v28)) + (Int32.toNatClampNeg v28)) + (Int32.toNatClampNeg (2 : Int32)))) (dw_zX X) dL_randomIsland_72 (v := (1 : Int32)) (by decide) ?_
  refine e_aload_n (z := tw_cz z 10 (((32 + (Int32.toNatClampNeg v28)) + (Int32.toNatClampNeg v28)) + (Int32.toNatClampNeg (2 : Int32)))) (dw_zX X) dL_randomIsland_73 rfl 1 rfl ?_
  refine e_getf (ci := 13) (T := TX13) (f := 1) (k := q21) (z := tw_cz z 10 (((32 + (Int32.toNatClampNeg v28)) + (Int32.toNatClampNeg v28)) + (Int32.toNatClampNeg (2 : Int32)))) (dw_zX X) dL_randomIsland_74 (Or.inl ⟨_, dw_w593⟩) dw_in13 rfl (by decide) (by decide) (fun h => dw_E13 h) rfl ?_
  refine e_iast (k := q35) (z := tw_cz z 10 (((32 + (Int32.toNatClampNeg v28)) + (Int32.toNatClampNeg v28)) + (Int32.toNatClampNeg (2 : Int32)))) (dw_zX X) (dw_zb hb) dL_randomIsland_77 (fun Y38 => ?_)
  refine e_callS (c := 10) (s := (((32 + (Int32.toNatClampNeg v28)) + (Int32.toNatClampNeg v28)) + (Int32.toNatClampNeg (2 : Int32)))) (As := [.ref (b + 0), .ref (b + r1), .ref (tw_zS z 5), .ref (b + q35)]) (z := tw_cz z 10 (((32 + (Int32.toNatClampNeg v28)) + (Int32.toNatClampNeg v28)) + (Int32.toNatClampNeg (2 : Int32)))) (dw_zX X) (dw_zA hA) (dw_zb hb) (dw_zD hD) dw_z0 (dw_zM eMC eMS) dL_randomIsland_78 (fun Q h => dw_m_L_writeAll (dw_zD hD) (by decide) h) dw_y_L_writeAll dw_v_L_writeAll _ dw_w1239 rfl ⟨dw_zf hfr rfl, dw_zl hlo rfl⟩ (Nat.le_of_ble_eq_true rfl) rfl (fun r39 => ?_)
  show dw_Rf (tw_cz z 10 (((32 + (Int32.toNatClampNeg v28)) + (Int32.toNatClampNeg v28)) + (Int32.toNatClampNeg (2 : Int32)))) b _ r39 _ [(4, .int v28), (3, .ref (b + q21)), (0, .ref (b + 0)), (1, .ref (b + r1)), (2, .ref (b + r2))] []
  refine e_aload_n (z := tw_cz z 10 (((32 + (Int32.toNatClampNeg v28)) + (Int32.toNatClampNeg v28)) + (Int32.toNatClampNeg (2 : Int32)))) (dw_zX X) dL_randomIsland_81 rfl 2 rfl ?_
  refine e_aload_n (z := tw_cz z 10 (((32 + (Int32.toNatClampNeg v28)) + (Int32.toNatClampNeg v28)) + (Int32.toNatClampNeg (2 : Int32)))) (dw_zX X) dL_randomIsland_82 rfl 3 rfl ?_
  refine e_ldcS (z := tw_cz z 10 (((32 + (Int32.toNatClampNeg v28)) + (Int32.toNatClampNeg v28)) + (Int32.toNatClampNeg (2 : Int32)))) (dw_zX X) dL_randomIsland_83 (j := 29) tw_l_W_175 ?_
  refine e_callS (c := 10) (s := (((32 + (Int32.toNatClampNeg v28)) + (Int32.toNatClampNeg v28)) + (Int32.toNatClampNeg (2 : Int32)))) (As := [.ref (b + 0), .ref (b + r1), .ref (tw_zS z 29)]) (z := tw_cz z 10 (((32 + (Int32.toNatClampNeg v28)) + (Int32.toNatClampNeg v28)) + (Int32.toNatClampNeg (2 : Int32)))) (dw_zX X) (dw_zA hA) (dw_zb hb) (dw_zD hD) dw_z0 (dw_zM eMC eMS) dL_randomIsland_85 (fun Q h => dw_m_L_write (dw_zD hD) (by decide) h) dw_y_L_write dw_v_L_write _ dw_w1242 rfl ⟨dw_zf hfr rfl, dw_zl hlo rfl⟩ (Nat.le_of_ble_eq_true rfl) rfl (fun r40 => ?_)
  show dw_Rf (tw_cz z 10 (((32 + (Int32.toNatClampNeg v28)) + (Int32.toNatClampNeg v28)) + (Int32.toNatClampNeg (2 : Int32)))) b _ r40 _ [(4, .int v28), (3, .ref (b + q21)), (0, .ref (b + 0)), (1, .ref (b + r1)), (2, .ref (b + r2))] []
  refine e_aload_n (z := tw_cz z 10 (((32 + (Int32.toNatClampNeg v28)) + (Int32.toNatClampNeg v28)) + (Int32.toNatClampNeg (2 : Int32)))) (dw_zX X) dL_randomIsland_88 rfl 4 rfl ?_
  refine e_iconst (z := tw_cz z 10 (((32 + (Int32.toNatClampNeg v28)) + (Int32.toNatClampNeg v28)) + (Int32.toNatClampNeg (2 : Int32)))) (dw_zX X) dL_randomIsland_89 (v := (4 : Int32)) (by decide) ?_
  refine e_callV (k := r2) (ci := 15) (Cn := "TreasureWalkLaw$Random") (T := TX15) (N := 1) (c := 10) (s := (((32 + (Int32.toNatClampNeg v28)) + (Int32.toNatClampNeg v28)) + (Int32.toNatClampNeg (2 : Int32)))) (As := [.int (4 : Int32)]) (z := tw_cz z 10 (((32 + (Int32.toNatClampNeg v28)) + (Int32.toNatClampNeg v28)) + (Int32.toNatClampNeg (2 : Int32)))) (dw_zX X) (dw_zA hA) (dw_zb hb) (dw_zD hD) dw_z0 (dw_zM eMC eMS) dL_randomIsland_90 (fun Q h => dw_m_X15_below (dw_zD hD) h) dw_y_X15_below dw_v_X15_below _ dw_w743 (by decide) rfl (fun h => dw_E15 h) rfl ⟨dw_zf hfr rfl, dw_zl hlo rfl⟩ (Nat.le_of_ble_eq_true rfl) rfl (fun r41 => ?_)
  show dw_Rf (tw_cz z 10 (((32 + (Int32.toNatClampNeg v28)) + (Int32.toNatClampNeg v28)) + (Int32.toNatClampNeg (2 : Int32)))) b _ r41.2 _ [(4, .int v28), (3, .ref (b + q21)), (0, .ref (b + 0)), (1, .ref (b + r1)), (2, .ref (b + r2))] [.int r41.1]
  refine e_istore (z := tw_cz z 10 (((32 + (Int32.toNatClampNeg v28)) + (Int32.toNatClampNeg v28)) + (Int32.toNatClampNeg (2 : Int32)))) (dw_zX X) dL_randomIsland_93 (by decide) (LL := fun v42 => [(5, .int v42), (4, .int v28), (3, .ref (b + q21)), (0, .ref (b + 0)), (1, .ref (b + r1)), (2, .ref (b + r2))]) (fun _ => rfl) (fun v42 => ?_)
  refine e_lp (α := Int32 × dw_S × Nat × Nat) (zJ := fun a43 => tw_cz z a43.2.2.1 a43.2.2.2) (YJ := fun a43 => a43.2.1) (pcJ := 95) (LJ := fun a43 => [(5, .int a43.1), (4, .int v28), (3, .ref (b + q21)), (0, .ref (b + 0)), (1, .ref (b + r1)), (2, .ref (b + r2))]) (stJ := fun a43 => []) (fun k44 hk44 a43 => ?_) n (v42, r41.2, 10, (((32 + (Int32.toNatClampNeg v28)) + (Int32.toNatClampNeg v28)) + (Int32.toNatClampNeg (2 : Int32))))
  refine e_iload (z := tw_cz z a43.2.2.1 a43.2.2.2) (dw_zX X) dL_randomIsland_95 0 rfl ?_
  refine e_if_le (z := tw_cz z a43.2.2.1 a43.2.2.2) (dw_zX X) dL_randomIsland_97 (tgt := 183) (by decide) ?_ ?_
  ·
    refine e_aload_n (z := tw_cz z a43.2.2.1 a43.2.2.2) (dw_zX X) dL_randomIsland_183 rfl 5 rfl ?_
    refine e_iconst (z := tw_cz z a43.2.2.1 a43.2.2.2) (dw_zX X) dL_randomIsland_184 (v := (3 : Int32)) (by decide) ?_
    refine e_callV (k := r2) (ci := 15) (Cn := "TreasureWalkLaw$Random") (T := TX15) (N := 1) (c := a43.2.2.1) (s := a43.2.2.2) (As := [.int (3 : Int32)]) (z := tw_cz z a43.2.2.1 a43.2.2.2) (dw_zX X) (dw_zA hA) (dw_zb hb) (dw_zD hD) dw_z0 (dw_zM eMC eMS) dL_randomIsland_185 (fun Q h => dw_m_X15_below (dw_zD hD) h) dw_y_X15_below dw_v_X15_below _ dw_w743 (by decide) rfl (fun h => dw_E15 h) rfl ⟨dw_zf hfr rfl, dw_zl hlo rfl⟩ (Nat.le_of_ble_eq_true rfl) rfl (fun r45 => ?_)
    show dw_Rf (tw_cz z a43.2.2.1 a43.2.2.2) b _ r45.2 _ [(5, .int a43.1), (4, .int v28), (3, .ref (b + q21)), (0, .ref (b + 0)), (1, .ref (b + r1)), (2, .ref (b + r2))] [.int r45.1]
    refine e_istore (z := tw_cz z a43.2.2.1 a43.2.2.2) (dw_zX X) dL_randomIsland_188 (by decide) (LL := fun v46 => [(5, .int v46), (4, .int v28), (3, .ref (b + q21)), (0, .ref (b + 0)), (1, .ref (b + r1)), (2, .ref (b + r2))]) (fun _ => rfl) (fun v46 => ?_)
    refine e_aload_n (z := tw_cz z a43.2.2.1 a43.2.2.2) (dw_zX X) dL_randomIsland_190 rfl 2 rfl ?_
    refine e_iload (z := tw_cz z a43.2.2.1 a43.2.2.2) (dw_zX X) dL_randomIsland_191 0 rfl ?_
    refine e_newA (c := a43.2.2.1) (s := a43.2.2.2) (z := tw_cz z a43.2.2.1 a43.2.2.2) (dw_zX X) dw_z0 (dw_zM eMC eMS) dL_randomIsland_193 _ dw_w1267 hA.2.2.1.2 (fun q47 Y48 => ?_)
    show dw_Rf (tw_cz z (a43.2.2.1 + 1) (a43.2.2.2 + (Int32.toNatClampNeg v46))) b _ Y48 _ [(5, .int v46), (4, .int v28), (3, .ref (b + q21)), (0, .ref (b + 0)), (1, .ref (b + r1)), (2, .ref (b + r2))] [.ref (b + q47), .ref (b + q21)]
    show dw_Rf (tw_cz z (a43.2.2.1 + 1) (a43.2.2.2 + (Int32.toNatClampNeg v46))) b _ Y48 _ [(5, .int v46), (4, .int v28), (3, .ref (b + q21)), (0, .ref (b + 0)), (1, .ref (b + r1)), (2, .ref (b + r2))] (dw_v b (some q47) :: .ref (b + q21) :: [])
    refine e_put (ci := 13) (T := TX13) (f := 5) (ty := .array (.array .int)) (k := q21) (z := tw_cz z (a43.2.2.1 + 1) (a43.2.2.2 + (Int32.toNatClampNeg v46))) (dw_zX X) (dw_zb hb) dL_randomIsland_196 (Or.inl ⟨_, dw_w601⟩) dw_in13 tyX13 tyX13_ok nmX13 rfl (by decide) rfl (by decide +kernel) dw_narrow dw_fitsA (by decide) (fun h => dw_F13 h) (Nat.le_of_ble_eq_true rfl) (fun h => dw_p13_5 h) rfl rfl rfl (fun a ha => dw_E_pr ha) (fun Y49 => ?_)
    refine e_iconst (z := tw_cz z (a43.2.2.1 + 1) (a43.2.2.2 + (Int32.toNatClampNeg v46))) (dw_zX X) dL_randomIsland_199 (v := (0 : Int32)) (by decide) ?_
    refine e_istore (z := tw_cz z (a43.2.2.1 + 1) (a43.2.2.2 + (Int32.toNatClampNeg v46))) (dw_zX X) dL_randomIsland_200 (by decide) (LL := fun v50 => [(6, .int v50), (5, .int v46), (4, .int v28), (3, .ref (b + q21)), (0, .ref (b + 0)), (1, .ref (b + r1)), (2, .ref (b + r2))]) (fun _ => rfl) (fun v50 => ?_)
    refine e_lp (α := Int32 × dw_S × Nat × Nat) (zJ := fun a51 => tw_cz z a51.2.2.1 a51.2.2.2) (YJ := fun a51 => a51.2.1) (pcJ := 202) (LJ := fun a51 => [(6, .int a51.1), (5, .int v46), (4, .int v28), (3, .ref (b + q21)), (0, .ref (b + 0)), (1, .ref (b + r1)), (2, .ref (b + r2))]) (stJ := fun a51 => []) (fun k52 hk52 a51 => ?_) n (v50, Y49, (a43.2.2.1 + 1), (a43.2.2.2 + (Int32.toNatClampNeg v46)))
    refine e_iload (z := tw_cz z a51.2.2.1 a51.2.2.2) (dw_zX X) dL_randomIsland_202 0 rfl ?_
    refine e_iload (z := tw_cz z a51.2.2.1 a51.2.2.2) (dw_zX X) dL_randomIsland_204 1 rfl ?_
    refine e_icmp_ge (z := tw_cz z a51.2.2.1 a51.2.2.2) (dw_zX X) dL_randomIsland_206 (tgt := 398) (by decide) ?_ ?_
    ·
      refine e_iconst (z := tw_cz z a51.2.2.1 a51.2.2.2) (dw_zX X) dL_randomIsland_398 (v := (1 : Int32)) (by decide) ?_
      refine e_aload_n (z := tw_cz z a51.2.2.1 a51.2.2.2) (dw_zX X) dL_randomIsland_399 rfl 6 rfl ?_
      refine e_iconst (z := tw_cz z a51.2.2.1 a51.2.2.2) (dw_zX X) dL_randomIsland_400 (v := (3 : Int32)) (by decide) ?_
      refine e_callV (k := r2) (ci := 15) (Cn := "TreasureWalkLaw$Random") (T := TX15) (N := 1) (c := a51.2.2.1) (s := a51.2.2.2) (As := [.int (3 : Int32)]) (z := tw_cz z a51.2.2.1 a51.2.2.2) (dw_zX X) (dw_zA hA) (dw_zb hb) (dw_zD hD) dw_z0 (dw_zM eMC eMS) dL_randomIsland_401 (fun Q h => dw_m_X15_below (dw_zD hD) h) dw_y_X15_below dw_v_X15_below _ dw_w743 (by decide) rfl (fun h => dw_E15 h) rfl ⟨dw_zf hfr rfl, dw_zl hlo rfl⟩ (Nat.le_of_ble_eq_true rfl) rfl (fun r53 => ?_)
      show dw_Rf (tw_cz z a51.2.2.1 a51.2.2.2) b _ r53.2 _ [(6, .int a51.1), (5, .int v46), (4, .int v28), (3, .ref (b + q21)), (0, .ref (b + 0)), (1, .ref (b + r1)), (2, .ref (b + r2))] [.int r53.1, .int (1 : Int32)]
      refine e_iadd (z := tw_cz z a51.2.2.1 a51.2.2.2) (dw_zX X) dL_randomIsland_404 ?_
      refine e_istore (z := tw_cz z a51.2.2.1 a51.2.2.2) (dw_zX X) dL_randomIsland_405 (by decide) (LL := fun v54 => [(6, .int v54), (5, .int v46), (4, .int v28), (3, .ref (b + q21)), (0, .ref (b + 0)), (1, .ref (b + r1)), (2, .ref (b + r2))]) (fun _ => rfl) (fun v54 => ?_)
      refine e_iconst (z := tw_cz z a51.2.2.1 a51.2.2.2) (dw_zX X) dL_randomIsland_407 (v := (0 : Int32)) (by decide) ?_
      refine e_istore (z := tw_cz z a51.2.2.1 a51.2.2.2) (dw_zX X) dL_randomIsland_408 (by decide) (LL := fun v55 => [(7, .int v55), (6, .int v54), (5, .int v46), (4, .int v28), (3, .ref (b + q21)), (0, .ref (b + 0)), (1, .ref (b + r1)), (2, .ref (b + r2))]) (fun _ => rfl) (fun v55 => ?_)
      refine dw_Rf.sub [0, 1, 3, 4, 5, 6, 7] rfl ?_
      refine e_lp (α := Int32 × dw_S × Nat × Nat) (zJ := fun a56 => tw_cz z a56.2.2.1 a56.2.2.2) (YJ := fun a56 => a56.2.1) (pcJ := 410) (LJ := fun a56 => [(7, .int a56.1), (6, .int v54), (4, .int v28), (3, .ref (b + q21)), (0, .ref (b + 0)), (1, .ref (b + r1)), (2, .ref (b + r2))]) (stJ := fun a56 => []) (fun k57 hk57 a56 => ?_) n (v55, r53.2, a51.2.2.1, a51.2.2.2)
      refine e_iload (z := tw_cz z a56.2.2.1 a56.2.2.2) (dw_zX X) dL_randomIsland_410 0 rfl ?_
      refine e_iload (z := tw_cz z a56.2.2.1 a56.2.2.2) (dw_zX X) dL_randomIsland_412 1 rfl ?_
      refine e_icmp_ge (z := tw_cz z a56.2.2.1 a56.2.2.2) (dw_zX X) dL_randomIsland_414 (tgt := 521) (by decide) ?_ ?_
      ·
        refine e_aload_n (z := tw_cz z a56.2.2.1 a56.2.2.2) (dw_zX X) dL_randomIsland_521 rfl 6 rfl ?_
        refine e_iconst (z := tw_cz z a56.2.2.1 a56.2.2.2) (dw_zX X) dL_randomIsland_522 (v := (2 : Int32)) (by decide) ?_
        refine e_callV (k := r2) (ci := 15) (Cn := "TreasureWalkLaw$Random") (T := TX15) (N := 1) (c := a56.2.2.1) (s := a56.2.2.2) (As := [.int (2 : Int32)]) (z := tw_cz z a56.2.2.1 a56.2.2.2) (dw_zX X) (dw_zA hA) (dw_zb hb) (dw_zD hD) dw_z0 (dw_zM eMC eMS) dL_randomIsland_523 (fun Q h => dw_m_X15_below (dw_zD hD) h) dw_y_X15_below dw_v_X15_below _ dw_w743 (by decide) rfl (fun h => dw_E15 h) rfl ⟨dw_zf hfr rfl, dw_zl hlo rfl⟩ (Nat.le_of_ble_eq_true rfl) rfl (fun r58 => ?_)
        show dw_Rf (tw_cz z a56.2.2.1 a56.2.2.2) b _ r58.2 _ [(7, .int a56.1), (6, .int v54), (4, .int v28), (3, .ref (b + q21)), (0, .ref (b + 0)), (1, .ref (b + r1)), (2, .ref (b + r2))] [.int r58.1]
        refine e_jn (α := dw_S × Nat × Nat) (zJ := fun a59 => tw_cz z a59.2.1 a59.2.2) (YJ := fun a59 => a59.1) (pcJ := 580) (LJ := fun a59 => [(6, .int v54), (3, .ref (b + q21)), (0, .ref (b + 0)), (1, .ref (b + r1)), (2, .ref (b + r2))]) (stJ := fun a59 => []) (fun a59 => ?_) (fun j60 hj60 => ?_)
        ·
          refine e_aload_n (z := tw_cz z a59.2.1 a59.2.2) (dw_zX X) dL_randomIsland_580 rfl 4 rfl ?_
          refine e_iconst (z := tw_cz z a59.2.1 a59.2.2) (dw_zX X) dL_randomIsland_581 (v := (4 : Int32)) (by decide) ?_
          refine e_callV (k := r2) (ci := 15) (Cn := "TreasureWalkLaw$Random") (T := TX15) (N := 1) (c := a59.2.1) (s := a59.2.2) (As := [.int (4 : Int32)]) (z := tw_cz z a59.2.1 a59.2.2) (dw_zX X) (dw_zA hA) (dw_zb hb) (dw_zD hD) dw_z0 (dw_zM eMC eMS) dL_randomIsland_582 (fun Q h => dw_m_X15_below (dw_zD hD) h) dw_y_X15_below dw_v_X15_below _ dw_w743 (by decide) rfl (fun h => dw_E15 h) rfl ⟨dw_zf hfr rfl, dw_zl hlo rfl⟩ (Nat.le_of_ble_eq_true rfl) rfl (fun r61 => ?_)
          show dw_Rf (tw_cz z a59.2.1 a59.2.2) b _ r61.2 _ [(6, .int v54), (3, .ref (b + q21)), (0, .ref (b + 0)), (1, .ref (b + r1)), (2, .ref (b + r2))] [.int r61.1]
          refine e_istore (z := tw_cz z a59.2.1 a59.2.2) (dw_zX X) dL_randomIsland_585 (by decide) (LL := fun v62 => [(7, .int v62), (6, .int v54), (3, .ref (b + q21)), (0, .ref (b + 0)), (1, .ref (b + r1)), (2, .ref (b + r2))]) (fun _ => rfl) (fun v62 => ?_)
          refine e_aload_n (z := tw_cz z a59.2.1 a59.2.2) (dw_zX X) dL_randomIsland_587 rfl 2 rfl ?_
          refine e_iload (z := tw_cz z a59.2.1 a59.2.2) (dw_zX X) dL_randomIsland_588 0 rfl ?_
          refine e_newq (t0 := 7) (kd := 24) (c := a59.2.1) (s := a59.2.2) (z := tw_cz z a59.2.1 a59.2.2) (dw_zX X) dw_z0 (dw_zM eMC eMS) dL_randomIsland_590 _ dw_w1499 hA.2.1.2.1 rfl (by decide) (fun Y k h => dw_E24 h) (fun q63 Y64 => ?_)
          show dw_Rf (tw_cz z (a59.2.1 + 1) (a59.2.2 + (Int32.toNatClampNeg v62))) b _ Y64 _ [(7, .int v62), (6, .int v54), (3, .ref (b + q21)), (0, .ref (b + 0)), (1, .ref (b + r1)), (2, .ref (b + r2))] [.ref (b + q63), .ref (b + q21)]
          show dw_Rf (tw_cz z (a59.2.1 + 1) (a59.2.2 + (Int32.toNatClampNeg v62))) b _ Y64 _ [(7, .int v62), (6, .int v54), (3, .ref (b + q21)), (0, .ref (b + 0)), (1, .ref (b + r1)), (2, .ref (b + r2))] (dw_v b (some q63) :: .ref (b + q21) :: [])
          refine e_put (ci := 13) (T := TX13) (f := 6) (ty := .array (.object "TreasureWalkLaw$Clue")) (k := q21) (z := tw_cz z (a59.2.1 + 1) (a59.2.2 + (Int32.toNatClampNeg v62))) (dw_zX X) (dw_zb hb) dL_randomIsland_593 (Or.inl ⟨_, dw_w603⟩) dw_in13 tyX13 tyX13_ok nmX13 rfl (by decide) rfl (by decide +kernel) dw_narrow dw_fitsA (by decide) (fun h => dw_F13 h) (Nat.le_of_ble_eq_true rfl) (fun h => dw_p13_6 h) rfl rfl rfl (fun a ha => dw_E_pr ha) (fun Y65 => ?_)
          refine e_iconst (z := tw_cz z (a59.2.1 + 1) (a59.2.2 + (Int32.toNatClampNeg v62))) (dw_zX X) dL_randomIsland_596 (v := (0 : Int32)) (by decide) ?_
          refine e_istore (z := tw_cz z (a59.2.1 + 1) (a59.2.2 + (Int32.toNatClampNeg v62))) (dw_zX X) dL_randomIsland_597 (by decide) (LL := fun v66 => [(8, .int v66), (7, .int v62), (6, .int v54), (3, .ref (b + q21)), (0, .ref (b + 0)), (1, .ref (b + r1)), (2, .ref (b + r2))]) (fun _ => rfl) (fun v66 => ?_)
          refine e_lp (α := Int32 × dw_S × Nat × Nat) (zJ := fun a67 => tw_cz z a67.2.2.1 a67.2.2.2) (YJ := fun a67 => a67.2.1) (pcJ := 599) (LJ := fun a67 => [(8, .int a67.1), (7, .int v62), (6, .int v54), (3, .ref (b + q21)), (0, .ref (b + 0)), (1, .ref (b + r1)), (2, .ref (b + r2))]) (stJ := fun a67 => []) (fun k68 hk68 a67 => ?_) n (v66, Y65, (a59.2.1 + 1), (a59.2.2 + (Int32.toNatClampNeg v62)))
          refine e_iload (z := tw_cz z a67.2.2.1 a67.2.2.2) (dw_zX X) dL_randomIsland_599 0 rfl ?_
          refine e_iload (z := tw_cz z a67.2.2.1 a67.2.2.2) (dw_zX X) dL_randomIsland_601 1 rfl ?_
          refine e_icmp_ge (z := tw_cz z a67.2.2.1 a67.2.2.2) (dw_zX X) dL_randomIsland_603 (tgt := 627) (by decide) ?_ ?_
          ·
            refine e_aload_n (z := tw_cz z a67.2.2.1 a67.2.2.2) (dw_zX X) dL_randomIsland_627 rfl 4 rfl ?_
            refine e_aload_n (z := tw_cz z a67.2.2.1 a67.2.2.2) (dw_zX X) dL_randomIsland_628 rfl 5 rfl ?_
            refine e_callS (c := a67.2.2.1) (s := a67.2.2.2) (As := [.ref (b + 0), .ref (b + r1)]) (z := tw_cz z a67.2.2.1 a67.2.2.2) (dw_zX X) (dw_zA hA) (dw_zb hb) (dw_zD hD) dw_z0 (dw_zM eMC eMS) dL_randomIsland_629 (fun Q h => dw_m_L_loadText hD hst h) dw_y_L_loadText dw_v_L_loadText _ dw_w1539 rfl ⟨dw_zf hfr rfl, dw_zl hlo rfl⟩ (Nat.le_of_ble_eq_true rfl) rfl (fun r69 => ?_)
            show dw_Rf (tw_cz z (a67.2.2.1 + 1) (a67.2.2.2 + 6)) b _ r69.2 _ [(8, .int a67.1), (7, .int v62), (6, .int v54), (3, .ref (b + q21)), (0, .ref (b + 0)), (1, .ref (b + r1)), (2, .ref (b + r2))] [.int r69.1]
            refine e_iload (z := tw_cz z (a67.2.2.1 + 1) (a67.2.2.2 + 6)) (dw_zX X) dL_randomIsland_632 1 rfl ?_
            refine e_jn (α := Option Nat) (zJ := fun a70 => tw_cz z (a67.2.2.1 + 1) (a67.2.2.2 + 6)) (YJ := fun a70 => r69.2) (pcJ := 642) (LJ := fun a70 => []) (stJ := fun a70 => [dw_v b a70]) (fun a70 => ?_) (fun j71 hj71 => ?_)
            ·
              exact e_aret (z := z) X eB dL_randomIsland_642 hret (Or.inl ⟨_, rfl⟩) dw_vr ⟨eMC, eMS⟩ hQ rfl rfl
            refine e_icmp_ne (z := tw_cz z (a67.2.2.1 + 1) (a67.2.2.2 + 6)) (dw_zX X) dL_randomIsland_634 (tgt := 641) (by decide) ?_ ?_
            ·
              refine e_null (z := tw_cz z (a67.2.2.1 + 1) (a67.2.2.2 + 6)) (dw_zX X) dL_randomIsland_641 ?_
              exact dw_Rf.sub [] rfl (hj71 none)
            ·
              refine e_aload_n (z := tw_cz z (a67.2.2.1 + 1) (a67.2.2.2 + 6)) (dw_zX X) dL_randomIsland_637 rfl 3 rfl ?_
              refine e_goto (z := tw_cz z (a67.2.2.1 + 1) (a67.2.2.2 + 6)) (dw_zX X) dL_randomIsland_638 (tgt := 642) (by decide) ?_
              exact dw_Rf.sub [] rfl (hj71 (some q21))
          ·
            refine e_aload_n (z := tw_cz z a67.2.2.1 a67.2.2.2) (dw_zX X) dL_randomIsland_606 rfl 3 rfl ?_
            refine e_getf (ci := 13) (T := TX13) (f := 6) (k := q21) (z := tw_cz z a67.2.2.1 a67.2.2.2) (dw_zX X) dL_randomIsland_607 (Or.inl ⟨_, dw_w603⟩) dw_in13 rfl (by decide) (by decide) (fun h => dw_E13 h) rfl ?_
            refine e_nn (r := (dw_r a67.2.1 q21 6)) (LL := fun _ => [(8, .int a67.1), (7, .int v62), (6, .int v54), (3, .ref (b + q21)), (0, .ref (b + 0)), (1, .ref (b + r1)), (2, .ref (b + r2))]) (SS := fun q => dw_v b q :: []) (fun r72 => ?_)
            show dw_Rf (tw_cz z a67.2.2.1 a67.2.2.2) b _ a67.2.1 _ [(8, .int a67.1), (7, .int v62), (6, .int v54), (3, .ref (b + q21)), (0, .ref (b + 0)), (1, .ref (b + r1)), (2, .ref (b + r2))] [.ref (b + r72)]
            refine e_iload (z := tw_cz z a67.2.2.1 a67.2.2.2) (dw_zX X) dL_randomIsland_610 0 rfl ?_
            refine e_aload_n (z := tw_cz z a67.2.2.1 a67.2.2.2) (dw_zX X) dL_randomIsland_612 rfl 4 rfl ?_
            refine e_aload_n (z := tw_cz z a67.2.2.1 a67.2.2.2) (dw_zX X) dL_randomIsland_613 rfl 5 rfl ?_
            refine e_aload_n (z := tw_cz z a67.2.2.1 a67.2.2.2) (dw_zX X) dL_randomIsland_614 rfl 6 rfl ?_
            refine e_iload (z := tw_cz z a67.2.2.1 a67.2.2.2) (dw_zX X) dL_randomIsland_615 2 rfl ?_
            refine e_callS (c := a67.2.2.1) (s := a67.2.2.2) (As := [.ref (b + 0), .ref (b + r1), .ref (b + r2), .int v54]) (z := tw_cz z a67.2.2.1 a67.2.2.2) (dw_zX X) (dw_zA hA) (dw_zb hb) (dw_zD hD) dw_z0 (dw_zM eMC eMS) dL_randomIsland_617 (fun Q h => dw_m_L_randomClue (dw_zD hD) h) dw_y_L_randomClue dw_v_L_randomClue _ dw_w1500 rfl ⟨dw_zf hfr rfl, dw_zl hlo rfl⟩ (Nat.le_of_ble_eq_true rfl) rfl (fun r73 => ?_)
            show dw_Rf (tw_cz z (a67.2.2.1 + 60) (a67.2.2.2 + 500)) b _ r73.2 _ [(8, .int a67.1), (7, .int v62), (6, .int v54), (3, .ref (b + q21)), (0, .ref (b + 0)), (1, .ref (b + r1)), (2, .ref (b + r2))] [.ref (b + r73.1), .int a67.1, .ref (b + r72)]
            show dw_Rf (tw_cz z (a67.2.2.1 + 60) (a67.2.2.2 + 500)) b _ r73.2 _ [(8, .int a67.1), (7, .int v62), (6, .int v54), (3, .ref (b + q21)), (0, .ref (b + 0)), (1, .ref (b + r1)), (2, .ref (b + r2))] (dw_v b (some r73.1) :: .int a67.1 :: .ref (b + r72) :: [])
            refine e_aast (k := r72) (kd := 24) (a := 7) (ci := 12) (rc := (RX12, TX12, 3)) (fs := fun v => dw_f12 b r73.2 v) (z := tw_cz z (a67.2.2.1 + 60) (a67.2.2.2 + 500)) (dw_zX X) (dw_zb hb) dL_randomIsland_620 (by decide) (by decide) (fun Y h => dw_E24 h) rfl rfl (fun v h => dw_F12 h) (fun Y74 => ?_)
            refine e_iinc (z := tw_cz z (a67.2.2.1 + 60) (a67.2.2.2 + 500)) (dw_zX X) dL_randomIsland_621 0 rfl (v := (1 : Int32)) (by decide) (by decide) (LL := fun v75 => [(8, .int v75), (7, .int v62), (6, .int v54), (3, .ref (b + q21)), (0, .ref (b + 0)), (1, .ref (b + r1)), (2, .ref (b + r2))]) (fun _ => rfl) (fun v75 => ?_)
            refine e_goto (z := tw_cz z (a67.2.2.1 + 60) (a67.2.2.2 + 500)) (dw_zX X) dL_randomIsland_624 (tgt := 599) (by decide) ?_
            exact hk68 (v75, Y74, (a67.2.2.1 + 60), (a67.2.2.2 + 500))
        refine e_if_ne (z := tw_cz z a56.2.2.1 a56.2.2.2) (dw_zX X) dL_randomIsland_526 (tgt := 580) (by decide) ?_ ?_
        ·
          exact dw_Rf.sub [1, 3, 4, 5, 6] rfl (hj60 (r58.2, a56.2.2.1, a56.2.2.2))
        ·
          refine e_aload_n (z := tw_cz z a56.2.2.1 a56.2.2.2) (dw_zX X) dL_randomIsland_529 rfl 3 rfl ?_
          refine e_aload_n (z := tw_cz z a56.2.2.1 a56.2.2.2) (dw_zX X) dL_randomIsland_530 rfl 3 rfl ?_
          refine e_getf (ci := 13) (T := TX13) (f := 4) (k := q21) (z := tw_cz z a56.2.2.1 a56.2.2.2) (dw_zX X) dL_randomIsland_531 (Or.inl ⟨_, dw_w599⟩) dw_in13 rfl (by decide) (by decide) (fun h => dw_E13 h) rfl ?_
          refine e_nn (r := (dw_r r58.2 q21 4)) (LL := fun _ => [(7, .int a56.1), (6, .int v54), (4, .int v28), (3, .ref (b + q21)), (0, .ref (b + 0)), (1, .ref (b + r1)), (2, .ref (b + r2))]) (SS := fun q => dw_v b q :: [.ref (b + q21)]) (fun r76 => ?_)
          show dw_Rf (tw_cz z a56.2.2.1 a56.2.2.2) b _ r58.2 _ [(7, .int a56.1), (6, .int v54), (4, .int v28), (3, .ref (b + q21)), (0, .ref (b + 0)), (1, .ref (b + r1)), (2, .ref (b + r2))] [.ref (b + r76), .ref (b + q21)]
          refine e_iconst (z := tw_cz z a56.2.2.1 a56.2.2.2) (dw_zX X) dL_randomIsland_534 (v := (0 : Int32)) (by decide) ?_
          refine e_iald (k := r76) (z := tw_cz z a56.2.2.1 a56.2.2.2) (dw_zX X) dL_randomIsland_535 ?_
          show dw_Rf (tw_cz z a56.2.2.1 a56.2.2.2) b _ r58.2 _ [(7, .int a56.1), (6, .int v54), (4, .int v28), (3, .ref (b + q21)), (0, .ref (b + 0)), (1, .ref (b + r1)), (2, .ref (b + r2))] (.int (dw_i r58.2 r76 (Int32.toNatClampNeg (0 : Int32))) :: .ref (b + q21) :: [])
          refine e_put (ci := 13) (T := TX13) (f := 7) (ty := .int) (k := q21) (z := tw_cz z a56.2.2.1 a56.2.2.2) (dw_zX X) (dw_zb hb) dL_randomIsland_536 (Or.inl ⟨_, dw_w605⟩) dw_in13 tyX13 tyX13_ok nmX13 rfl (by decide) rfl (by decide +kernel) rfl rfl (by decide) (fun h => dw_F13 h) (Nat.le_of_ble_eq_true rfl) (fun h => dw_p13_7 h) rfl rfl rfl (fun a ha => dw_E_pi ha) (fun Y77 => ?_)
          refine e_aload_n (z := tw_cz z a56.2.2.1 a56.2.2.2) (dw_zX X) dL_randomIsland_539 rfl 4 rfl ?_
          refine e_aload_n (z := tw_cz z a56.2.2.1 a56.2.2.2) (dw_zX X) dL_randomIsland_540 rfl 5 rfl ?_
          refine e_ldcS (z := tw_cz z a56.2.2.1 a56.2.2.2) (dw_zX X) dL_randomIsland_541 (j := 3) tw_l_W_220 ?_
          refine e_iconst (z := tw_cz z a56.2.2.1 a56.2.2.2) (dw_zX X) dL_randomIsland_543 (v := (2 : Int32)) (by decide) ?_
          refine e_newi (c := a56.2.2.1) (s := a56.2.2.2) (z := tw_cz z a56.2.2.1 a56.2.2.2) (dw_zX X) dw_z0 (dw_zM eMC eMS) dL_randomIsland_544 hA.1.1 (fun q78 Y79 => ?_)
          show dw_Rf (tw_cz z (a56.2.2.1 + 1) (a56.2.2.2 + (Int32.toNatClampNeg (2 : Int32)))) b _ Y79 _ [(7, .int a56.1), (6, .int v54), (4, .int v28), (3, .ref (b + q21)), (0, .ref (b + 0)), (1, .ref (b + r1)), (2, .ref (b + r2))] [.ref (b + q78), .ref (tw_zS z 3), .ref (b + r1), .ref (b + 0)]
          refine e_dup (z := tw_cz z (a56.2.2.1 + 1) (a56.2.2.2 + (Int32.toNatClampNeg (2 : Int32)))) (dw_zX X) dL_randomIsland_546 rfl ?_
          refine e_iconst (z := tw_cz z (a56.2.2.1 + 1) (a56.2.2.2 + (Int32.toNatClampNeg (2 : Int32)))) (dw_zX X) dL_randomIsland_547 (v := (0 : Int32)) (by decide) ?_
          refine e_aload_n (z := tw_cz z (a56.2.2.1 + 1) (a56.2.2.2 + (Int32.toNatClampNeg (2 : Int32)))) (dw_zX X) dL_randomIsland_548 rfl 3 rfl ?_
          refine e_getf (ci := 13) (T := TX13) (f := 7) (k := q21) (z := tw_cz z (a56.2.2.1 + 1) (a56.2.2.2 + (Int32.toNatClampNeg (2 : Int32)))) (dw_zX X) dL_randomIsland_549 (Or.inl ⟨_, dw_w605⟩) dw_in13 rfl (by decide) (by decide) (fun h => dw_E13 h) rfl ?_
          refine e_aload_n (z := tw_cz z (a56.2.2.1 + 1) (a56.2.2.2 + (Int32.toNatClampNeg (2 : Int32)))) (dw_zX X) dL_randomIsland_552 rfl 3 rfl ?_
          refine e_getf (ci := 13) (T := TX13) (f := 0) (k := q21) (z := tw_cz z (a56.2.2.1 + 1) (a56.2.2.2 + (Int32.toNatClampNeg (2 : Int32)))) (dw_zX X) dL_randomIsland_553 (Or.inl ⟨_, dw_w591⟩) dw_in13 rfl (by decide) (by decide) (fun h => dw_E13 h) rfl ?_
          refine e_irem (z := tw_cz z (a56.2.2.1 + 1) (a56.2.2.2 + (Int32.toNatClampNeg (2 : Int32)))) (dw_zX X) dL_randomIsland_556 ?_
          refine e_iast (k := q78) (z := tw_cz z (a56.2.2.1 + 1) (a56.2.2.2 + (Int32.toNatClampNeg (2 : Int32)))) (dw_zX X) (dw_zb hb) dL_randomIsland_557 (fun Y80 => ?_)
          refine e_dup (z := tw_cz z (a56.2.2.1 + 1) (a56.2.2.2 + (Int32.toNatClampNeg (2 : Int32)))) (dw_zX X) dL_randomIsland_558 rfl ?_
          refine e_iconst (z := tw_cz z (a56.2.2.1 + 1) (a56.2.2.2 + (Int32.toNatClampNeg (2 : Int32)))) (dw_zX X) dL_randomIsland_559 (v := (1 : Int32)) (by decide) ?_
          refine e_aload_n (z := tw_cz z (a56.2.2.1 + 1) (a56.2.2.2 + (Int32.toNatClampNeg (2 : Int32)))) (dw_zX X) dL_randomIsland_560 rfl 3 rfl ?_
          refine e_getf (ci := 13) (T := TX13) (f := 7) (k := q21) (z := tw_cz z (a56.2.2.1 + 1) (a56.2.2.2 + (Int32.toNatClampNeg (2 : Int32)))) (dw_zX X) dL_randomIsland_561 (Or.inl ⟨_, dw_w605⟩) dw_in13 rfl (by decide) (by decide) (fun h => dw_E13 h) rfl ?_
          refine e_aload_n (z := tw_cz z (a56.2.2.1 + 1) (a56.2.2.2 + (Int32.toNatClampNeg (2 : Int32)))) (dw_zX X) dL_randomIsland_564 rfl 3 rfl ?_
          refine e_getf (ci := 13) (T := TX13) (f := 0) (k := q21) (z := tw_cz z (a56.2.2.1 + 1) (a56.2.2.2 + (Int32.toNatClampNeg (2 : Int32)))) (dw_zX X) dL_randomIsland_565 (Or.inl ⟨_, dw_w591⟩) dw_in13 rfl (by decide) (by decide) (fun h => dw_E13 h) rfl ?_
          refine e_idiv (z := tw_cz z (a56.2.2.1 + 1) (a56.2.2.2 + (Int32.toNatClampNeg (2 : Int32)))) (dw_zX X) dL_randomIsland_568 ?_
          refine e_iast (k := q78) (z := tw_cz z (a56.2.2.1 + 1) (a56.2.2.2 + (Int32.toNatClampNeg (2 : Int32)))) (dw_zX X) (dw_zb hb) dL_randomIsland_569 (fun Y81 => ?_)
          refine e_callS (c := (a56.2.2.1 + 1)) (s := (a56.2.2.2 + (Int32.toNatClampNeg (2 : Int32)))) (As := [.ref (b + 0), .ref (b + r1), .ref (tw_zS z 3), .ref (b + q78)]) (z := tw_cz z (a56.2.2.1 + 1) (a56.2.2.2 + (Int32.toNatClampNeg (2 : Int32)))) (dw_zX X) (dw_zA hA) (dw_zb hb) (dw_zD hD) dw_z0 (dw_zM eMC eMS) dL_randomIsland_570 (fun Q h => dw_m_L_writeAll (dw_zD hD) (by decide) h) dw_y_L_writeAll dw_v_L_writeAll _ dw_w1239 rfl ⟨dw_zf hfr rfl, dw_zl hlo rfl⟩ (Nat.le_of_ble_eq_true rfl) rfl (fun r82 => ?_)
          show dw_Rf (tw_cz z (a56.2.2.1 + 1) (a56.2.2.2 + (Int32.toNatClampNeg (2 : Int32)))) b _ r82 _ [(7, .int a56.1), (6, .int v54), (4, .int v28), (3, .ref (b + q21)), (0, .ref (b + 0)), (1, .ref (b + r1)), (2, .ref (b + r2))] []
          refine e_aload_n (z := tw_cz z (a56.2.2.1 + 1) (a56.2.2.2 + (Int32.toNatClampNeg (2 : Int32)))) (dw_zX X) dL_randomIsland_573 rfl 4 rfl ?_
          refine e_aload_n (z := tw_cz z (a56.2.2.1 + 1) (a56.2.2.2 + (Int32.toNatClampNeg (2 : Int32)))) (dw_zX X) dL_randomIsland_574 rfl 5 rfl ?_
          refine e_ldcS (z := tw_cz z (a56.2.2.1 + 1) (a56.2.2.2 + (Int32.toNatClampNeg (2 : Int32)))) (dw_zX X) dL_randomIsland_575 (j := 29) tw_l_W_175 ?_
          refine e_callS (c := (a56.2.2.1 + 1)) (s := (a56.2.2.2 + (Int32.toNatClampNeg (2 : Int32)))) (As := [.ref (b + 0), .ref (b + r1), .ref (tw_zS z 29)]) (z := tw_cz z (a56.2.2.1 + 1) (a56.2.2.2 + (Int32.toNatClampNeg (2 : Int32)))) (dw_zX X) (dw_zA hA) (dw_zb hb) (dw_zD hD) dw_z0 (dw_zM eMC eMS) dL_randomIsland_577 (fun Q h => dw_m_L_write (dw_zD hD) (by decide) h) dw_y_L_write dw_v_L_write _ dw_w1242 rfl ⟨dw_zf hfr rfl, dw_zl hlo rfl⟩ (Nat.le_of_ble_eq_true rfl) rfl (fun r83 => ?_)
          show dw_Rf (tw_cz z (a56.2.2.1 + 1) (a56.2.2.2 + (Int32.toNatClampNeg (2 : Int32)))) b _ r83 _ [(7, .int a56.1), (6, .int v54), (4, .int v28), (3, .ref (b + q21)), (0, .ref (b + 0)), (1, .ref (b + r1)), (2, .ref (b + r2))] []
          exact dw_Rf.sub [1, 3, 4, 5, 6] rfl (hj60 (r83, (a56.2.2.1 + 1), (a56.2.2.2 + (Int32.toNatClampNeg (2 : Int32)))))
      ·
        refine e_aload_n (z := tw_cz z a56.2.2.1 a56.2.2.2) (dw_zX X) dL_randomIsland_417 rfl 6 rfl ?_
        refine e_iload (z := tw_cz z a56.2.2.1 a56.2.2.2) (dw_zX X) dL_randomIsland_418 2 rfl ?_
        refine e_callV (k := r2) (ci := 15) (Cn := "TreasureWalkLaw$Random") (T := TX15) (N := 1) (c := a56.2.2.1) (s := a56.2.2.2) (As := [.int v28]) (z := tw_cz z a56.2.2.1 a56.2.2.2) (dw_zX X) (dw_zA hA) (dw_zb hb) (dw_zD hD) dw_z0 (dw_zM eMC eMS) dL_randomIsland_420 (fun Q h => dw_m_X15_below (dw_zD hD) h) dw_y_X15_below dw_v_X15_below _ dw_w743 (by decide) rfl (fun h => dw_E15 h) rfl ⟨dw_zf hfr rfl, dw_zl hlo rfl⟩ (Nat.le_of_ble_eq_true rfl) rfl (fun r84 => ?_)
        show dw_Rf (tw_cz z a56.2.2.1 a56.2.2.2) b _ r84.2 _ [(7, .int a56.1), (6, .int v54), (4, .int v28), (3, .ref (b + q21)), (0, .ref (b + 0)), (1, .ref (b + r1)), (2, .ref (b + r2))] [.int r84.1]
        refine e_istore (z := tw_cz z a56.2.2.1 a56.2.2.2) (dw_zX X) dL_randomIsland_423 (by decide) (LL := fun v85 => [(8, .int v85), (7, .int a56.1), (6, .int v54), (4, .int v28), (3, .ref (b + q21)), (0, .ref (b + 0)), (1, .ref (b + r1)), (2, .ref (b + r2))]) (fun _ => rfl) (fun v85 => ?_)
        refine e_lp (α := Int32 × Int32 × Nat × Nat) (zJ := fun a86 => tw_cz z a86.2.2.1 a86.2.2.2) (YJ := fun a86 => r84.2) (pcJ := 425) (LJ := fun a86 => [(8, .int a86.2.1), (7, .int a86.1), (6, .int v54), (4, .int v28), (3, .ref (b + q21)), (0, .ref (b + 0)), (1, .ref (b + r1)), (2, .ref (b + r2))]) (stJ := fun a86 => []) (fun k87 hk87 a86 => ?_) n (a56.1, v85, a56.2.2.1, a56.2.2.2)
        refine e_aload_n (z := tw_cz z a86.2.2.1 a86.2.2.2) (dw_zX X) dL_randomIsland_425 rfl 4 rfl ?_
        refine e_getf (ci := 13) (T := TX13) (f := 2) (k := q21) (z := tw_cz z a86.2.2.1 a86.2.2.2) (dw_zX X) dL_randomIsland_426 (Or.inl ⟨_, dw_w595⟩) dw_in13 rfl (by decide) (by decide) (fun h => dw_E13 h) rfl ?_
        refine e_nn (r := (dw_r r84.2 q21 2)) (LL := fun _ => [(8, .int a86.2.1), (7, .int a86.1), (6, .int v54), (4, .int v28), (3, .ref (b + q21)), (0, .ref (b + 0)), (1, .ref (b + r1)), (2, .ref (b + r2))]) (SS := fun q => dw_v b q :: []) (fun r88 => ?_)
        show dw_Rf (tw_cz z a86.2.2.1 a86.2.2.2) b _ r84.2 _ [(8, .int a86.2.1), (7, .int a86.1), (6, .int v54), (4, .int v28), (3, .ref (b + q21)), (0, .ref (b + 0)), (1, .ref (b + r1)), (2, .ref (b + r2))] [.ref (b + r88)]
        refine e_iload (z := tw_cz z a86.2.2.1 a86.2.2.2) (dw_zX X) dL_randomIsland_429 0 rfl ?_
        refine e_zald (k := r88) (z := tw_cz z a86.2.2.1 a86.2.2.2) (dw_zX X) dL_randomIsland_431 ?_
        refine e_if_eq (z := tw_cz z a86.2.2.1 a86.2.2.2) (dw_zX X) dL_randomIsland_432 (tgt := 447) (by decide) ?_ ?_
        ·
          refine e_aload_n (z := tw_cz z a86.2.2.1 a86.2.2.2) (dw_zX X) dL_randomIsland_447 rfl 4 rfl ?_
          refine e_getf (ci := 13) (T := TX13) (f := 4) (k := q21) (z := tw_cz z a86.2.2.1 a86.2.2.2) (dw_zX X) dL_randomIsland_448 (Or.inl ⟨_, dw_w599⟩) dw_in13 rfl (by decide) (by decide) (fun h => dw_E13 h) rfl ?_
          refine e_nn (r := (dw_r r84.2 q21 4)) (LL := fun _ => [(8, .int a86.2.1), (7, .int a86.1), (6, .int v54), (4, .int v28), (3, .ref (b + q21)), (0, .ref (b + 0)), (1, .ref (b + r1)), (2, .ref (b + r2))]) (SS := fun q => dw_v b q :: []) (fun r89 => ?_)
          show dw_Rf (tw_cz z a86.2.2.1 a86.2.2.2) b _ r84.2 _ [(8, .int a86.2.1), (7, .int a86.1), (6, .int v54), (4, .int v28), (3, .ref (b + q21)), (0, .ref (b + 0)), (1, .ref (b + r1)), (2, .ref (b + r2))] [.ref (b + r89)]
          refine e_iload (z := tw_cz z a86.2.2.1 a86.2.2.2) (dw_zX X) dL_randomIsland_451 1 rfl ?_
          refine e_iload (z := tw_cz z a86.2.2.1 a86.2.2.2) (dw_zX X) dL_randomIsland_453 0 rfl ?_
          refine e_iast (k := r89) (z := tw_cz z a86.2.2.1 a86.2.2.2) (dw_zX X) (dw_zb hb) dL_randomIsland_455 (fun Y90 => ?_)
          refine e_aload_n (z := tw_cz z a86.2.2.1 a86.2.2.2) (dw_zX X) dL_randomIsland_456 rfl 5 rfl ?_
          refine e_aload_n (z := tw_cz z a86.2.2.1 a86.2.2.2) (dw_zX X) dL_randomIsland_457 rfl 6 rfl ?_
          refine e_new (ci := 17) (T := TJ4) (N := 4) (c := a86.2.2.1) (s := a86.2.2.2) (z := tw_cz z a86.2.2.1 a86.2.2.2) (dw_zX X) dw_z0 (dw_zM eMC eMS) dL_randomIsland_458 _ dw_w1272 (List.mem_of_getElem? dw_w1273) (List.mem_of_getElem? dw_w65) dw_in17 tyJ4 tyJ4_ok rfl dw_df17 (by decide) (fun a => dw_fr17) (fun q91 Y92 => ?_)
          show dw_Rf (tw_cz z (a86.2.2.1 + 1) (a86.2.2.2 + 4)) b _ Y92 _ [(8, .int a86.2.1), (7, .int a86.1), (6, .int v54), (4, .int v28), (3, .ref (b + q21)), (0, .ref (b + 0)), (1, .ref (b + r1)), (2, .ref (b + r2))] [.ref (b + q91), .ref (b + r1), .ref (b + 0)]
          refine e_dup (z := tw_cz z (a86.2.2.1 + 1) (a86.2.2.2 + 4)) (dw_zX X) dL_randomIsland_461 rfl ?_
          refine e_callI (c := (a86.2.2.1 + 1)) (s := (a86.2.2.2 + 4)) (As := []) (z := tw_cz z (a86.2.2.1 + 1) (a86.2.2.2 + 4)) (dw_zX X) (dw_zA hA) (dw_zb hb) (dw_zD hD) dw_z0 (dw_zM eMC eMS) dL_randomIsland_462 (fun Q h => dw_m_J4_init_da8c8 (dw_zD hD) h) dw_y_J4_init_da8c8 dw_v_J4_init_da8c8 rfl _ dw_w1274 rfl ⟨dw_zf hfr rfl, dw_zl hlo rfl⟩ (Nat.le_of_ble_eq_true rfl) rfl (fun r93 => ?_)
          show dw_Rf (tw_cz z ((a86.2.2.1 + 1) + 1) ((a86.2.2.2 + 4) + 16)) b _ r93 _ [(8, .int a86.2.1), (7, .int a86.1), (6, .int v54), (4, .int v28), (3, .ref (b + q21)), (0, .ref (b + 0)), (1, .ref (b + r1)), (2, .ref (b + r2))] [.ref (b + q91), .ref (b + r1), .ref (b + 0)]
          refine e_ldcS (z := tw_cz z ((a86.2.2.1 + 1) + 1) ((a86.2.2.2 + 4) + 16)) (dw_zX X) dL_randomIsland_465 (j := 32) tw_l_W_215 ?_
          refine e_callV (k := q91) (ci := 17) (Cn := "java/lang/StringBuilder") (T := TJ4) (N := 4) (c := ((a86.2.2.1 + 1) + 1)) (s := ((a86.2.2.2 + 4) + 16)) (As := [.ref (tw_zS z 32)]) (z := tw_cz z ((a86.2.2.1 + 1) + 1) ((a86.2.2.2 + 4) + 16)) (dw_zX X) (dw_zA hA) (dw_zb hb) (dw_zD hD) dw_z0 (dw_zM eMC eMS) dL_randomIsland_467 (fun Q h => dw_m_J4_append_15ec4 (dw_zD hD) (by decide) h) dw_y_J4_append_15ec4 dw_v_J4_append_15ec4 _ dw_w1303 (by decide) rfl (fun h => dw_E17 h) rfl ⟨dw_zf hfr rfl, dw_zl hlo rfl⟩ (Nat.le_of_ble_eq_true rfl) rfl (fun r94 => ?_)
          show dw_Rf (tw_cz z ((a86.2.2.1 + 1) + 1) ((a86.2.2.2 + 4) + 16)) b _ r94.2 _ [(8, .int a86.2.1), (7, .int a86.1), (6, .int v54), (4, .int v28), (3, .ref (b + q21)), (0, .ref (b + 0)), (1, .ref (b + r1)), (2, .ref (b + r2))] [.ref (b + r94.1), .ref (b + r1), .ref (b + 0)]
          refine e_bipush (z := tw_cz z ((a86.2.2.1 + 1) + 1) ((a86.2.2.2 + 4) + 16)) (dw_zX X) dL_randomIsland_470 (v := (97 : Int32)) (by decide) ?_
          refine e_iload (z := tw_cz z ((a86.2.2.1 + 1) + 1) ((a86.2.2.2 + 4) + 16)) (dw_zX X) dL_randomIsland_472 1 rfl ?_
          refine e_iadd (z := tw_cz z ((a86.2.2.1 + 1) + 1) ((a86.2.2.2 + 4) + 16)) (dw_zX X) dL_randomIsland_474 ?_
          refine e_i2c (z := tw_cz z ((a86.2.2.1 + 1) + 1) ((a86.2.2.2 + 4) + 16)) (dw_zX X) dL_randomIsland_475 rfl ?_
          refine e_callV (k := r94.1) (ci := 17) (Cn := "java/lang/StringBuilder") (T := TJ4) (N := 4) (c := ((a86.2.2.1 + 1) + 1)) (s := ((a86.2.2.2 + 4) + 16)) (As := [.int ((Int32.toUInt32 ((97 : Int32) + a86.1) % 65536).toInt32)]) (z := tw_cz z ((a86.2.2.1 + 1) + 1) ((a86.2.2.2 + 4) + 16)) (dw_zX X) (dw_zA hA) (dw_zb hb) (dw_zD hD) dw_z0 (dw_zM eMC eMS) dL_randomIsland_476 (fun Q h => dw_m_J4_append_cf468 (dw_zD hD) h) dw_y_J4_append_cf468 dw_v_J4_append_cf468 _ dw_w1396 (by decide) rfl (fun h => dw_E17 h) rfl ⟨dw_zf hfr rfl, dw_zl hlo rfl⟩ (Nat.le_of_ble_eq_true rfl) rfl (fun r95 => ?_)
          show dw_Rf (tw_cz z ((a86.2.2.1 + 1) + 1) ((a86.2.2.2 + 4) + 16)) b _ r95.2 _ [(8, .int a86.2.1), (7, .int a86.1), (6, .int v54), (4, .int v28), (3, .ref (b + q21)), (0, .ref (b + 0)), (1, .ref (b + r1)), (2, .ref (b + r2))] [.ref (b + r95.1), .ref (b + r1), .ref (b + 0)]
          refine e_callV (k := r95.1) (ci := 17) (Cn := "java/lang/StringBuilder") (T := TJ4) (N := 4) (c := ((a86.2.2.1 + 1) + 1)) (s := ((a86.2.2.2 + 4) + 16)) (As := []) (z := tw_cz z ((a86.2.2.1 + 1) + 1) ((a86.2.2.2 + 4) + 16)) (dw_zX X) (dw_zA hA) (dw_zb hb) (dw_zD hD) dw_z0 (dw_zM eMC eMS) dL_randomIsland_479 (fun Q h => dw_m_J4_toString_0e30d (dw_zD hD) h) dw_y_J4_toString_0e30d dw_v_J4_toString_0e30d _ dw_w1409 (by decide) rfl (fun h => dw_E17 h) rfl ⟨dw_zf hfr rfl, dw_zl hlo rfl⟩ (Nat.le_of_ble_eq_true rfl) rfl (fun r96 => ?_)
          show dw_Rf (tw_cz z (((a86.2.2.1 + 1) + 1) + 2) (((a86.2.2.2 + 4) + 16) + 36)) b _ r96.2 _ [(8, .int a86.2.1), (7, .int a86.1), (6, .int v54), (4, .int v28), (3, .ref (b + q21)), (0, .ref (b + 0)), (1, .ref (b + r1)), (2, .ref (b + r2))] [.ref (b + r96.1), .ref (b + r1), .ref (b + 0)]
          refine e_iconst (z := tw_cz z (((a86.2.2.1 + 1) + 1) + 2) (((a86.2.2.2 + 4) + 16) + 36)) (dw_zX X) dL_randomIsland_482 (v := (2 : Int32)) (by decide) ?_
          refine e_newi (c := (((a86.2.2.1 + 1) + 1) + 2)) (s := (((a86.2.2.2 + 4) + 16) + 36)) (z := tw_cz z (((a86.2.2.1 + 1) + 1) + 2) (((a86.2.2.2 + 4) + 16) + 36)) (dw_zX X) dw_z0 (dw_zM eMC eMS) dL_randomIsland_483 hA.1.1 (fun q97 Y98 => ?_)
          show dw_Rf (tw_cz z ((((a86.2.2.1 + 1) + 1) + 2) + 1) ((((a86.2.2.2 + 4) + 16) + 36) + (Int32.toNatClampNeg (2 : Int32)))) b _ Y98 _ [(8, .int a86.2.1), (7, .int a86.1), (6, .int v54), (4, .int v28), (3, .ref (b + q21)), (0, .ref (b + 0)), (1, .ref (b + r1)), (2, .ref (b + r2))] [.ref (b + q97), .ref (b + r96.1), .ref (b + r1), .ref (b + 0)]
          refine e_dup (z := tw_cz z ((((a86.2.2.1 + 1) + 1) + 2) + 1) ((((a86.2.2.2 + 4) + 16) + 36) + (Int32.toNatClampNeg (2 : Int32)))) (dw_zX X) dL_randomIsland_485 rfl ?_
          refine e_iconst (z := tw_cz z ((((a86.2.2.1 + 1) + 1) + 2) + 1) ((((a86.2.2.2 + 4) + 16) + 36) + (Int32.toNatClampNeg (2 : Int32)))) (dw_zX X) dL_randomIsland_486 (v := (0 : Int32)) (by decide) ?_
          refine e_iload (z := tw_cz z ((((a86.2.2.1 + 1) + 1) + 2) + 1) ((((a86.2.2.2 + 4) + 16) + 36) + (Int32.toNatClampNeg (2 : Int32)))) (dw_zX X) dL_randomIsland_487 0 rfl ?_
          refine e_aload_n (z := tw_cz z ((((a86.2.2.1 + 1) + 1) + 2) + 1) ((((a86.2.2.2 + 4) + 16) + 36) + (Int32.toNatClampNeg (2 : Int32)))) (dw_zX X) dL_randomIsland_489 rfl 4 rfl ?_
          refine e_getf (ci := 13) (T := TX13) (f := 0) (k := q21) (z := tw_cz z ((((a86.2.2.1 + 1) + 1) + 2) + 1) ((((a86.2.2.2 + 4) + 16) + 36) + (Int32.toNatClampNeg (2 : Int32)))) (dw_zX X) dL_randomIsland_490 (Or.inl ⟨_, dw_w591⟩) dw_in13 rfl (by decide) (by decide) (fun h => dw_E13 h) rfl ?_
          refine e_irem (z := tw_cz z ((((a86.2.2.1 + 1) + 1) + 2) + 1) ((((a86.2.2.2 + 4) + 16) + 36) + (Int32.toNatClampNeg (2 : Int32)))) (dw_zX X) dL_randomIsland_493 ?_
          refine e_iast (k := q97) (z := tw_cz z ((((a86.2.2.1 + 1) + 1) + 2) + 1) ((((a86.2.2.2 + 4) + 16) + 36) + (Int32.toNatClampNeg (2 : Int32)))) (dw_zX X) (dw_zb hb) dL_randomIsland_494 (fun Y99 => ?_)
          refine e_dup (z := tw_cz z ((((a86.2.2.1 + 1) + 1) + 2) + 1) ((((a86.2.2.2 + 4) + 16) + 36) + (Int32.toNatClampNeg (2 : Int32)))) (dw_zX X) dL_randomIsland_495 rfl ?_
          refine e_iconst (z := tw_cz z ((((a86.2.2.1 + 1) + 1) + 2) + 1) ((((a86.2.2.2 + 4) + 16) + 36) + (Int32.toNatClampNeg (2 : Int32)))) (dw_zX X) dL_randomIsland_496 (v := (1 : Int32)) (by decide) ?_
          refine e_iload (z := tw_cz z ((((a86.2.2.1 + 1) + 1) + 2) + 1) ((((a86.2.2.2 + 4) + 16) + 36) + (Int32.toNatClampNeg (2 : Int32)))) (dw_zX X) dL_randomIsland_497 0 rfl ?_
          refine e_aload_n (z := tw_cz z ((((a86.2.2.1 + 1) + 1) + 2) + 1) ((((a86.2.2.2 + 4) + 16) + 36) + (Int32.toNatClampNeg (2 : Int32)))) (dw_zX X) dL_randomIsland_499 rfl 4 rfl ?_
          refine e_getf (ci := 13) (T := TX13) (f := 0) (k := q21) (z := tw_cz z ((((a86.2.2.1 + 1) + 1) + 2) + 1) ((((a86.2.2.2 + 4) + 16) + 36) + (Int32.toNatClampNeg (2 : Int32)))) (dw_zX X) dL_randomIsland_500 (Or.inl ⟨_, dw_w591⟩) dw_in13 rfl (by decide) (by decide) (fun h => dw_E13 h) rfl ?_
          refine e_idiv (z := tw_cz z ((((a86.2.2.1 + 1) + 1) + 2) + 1) ((((a86.2.2.2 + 4) + 16) + 36) + (Int32.toNatClampNeg (2 : Int32)))) (dw_zX X) dL_randomIsland_503 ?_
          refine e_iast (k := q97) (z := tw_cz z ((((a86.2.2.1 + 1) + 1) + 2) + 1) ((((a86.2.2.2 + 4) + 16) + 36) + (Int32.toNatClampNeg (2 : Int32)))) (dw_zX X) (dw_zb hb) dL_randomIsland_504 (fun Y100 => ?_)
          refine e_callS (c := ((((a86.2.2.1 + 1) + 1) + 2) + 1)) (s := ((((a86.2.2.2 + 4) + 16) + 36) + (Int32.toNatClampNeg (2 : Int32)))) (As := [.ref (b + 0), .ref (b + r1), .ref (b + r96.1), .ref (b + q97)]) (z := tw_cz z ((((a86.2.2.1 + 1) + 1) + 2) + 1) ((((a86.2.2.2 + 4) + 16) + 36) + (Int32.toNatClampNeg (2 : Int32)))) (dw_zX X) (dw_zA hA) (dw_zb hb) (dw_zD hD) dw_z0 (dw_zM eMC eMS) dL_randomIsland_505 (fun Q h => dw_m_L_writeAlld (dw_zD hD) h) dw_y_L_writeAll dw_v_L_writeAll _ dw_w1239 rfl ⟨dw_zf hfr rfl, dw_zl hlo rfl⟩ (Nat.le_of_ble_eq_true rfl) rfl (fun r101 => ?_)
          show dw_Rf (tw_cz z ((((a86.2.2.1 + 1) + 1) + 2) + 1) ((((a86.2.2.2 + 4) + 16) + 36) + (Int32.toNatClampNeg (2 : Int32)))) b _ r101 _ [(8, .int a86.2.1), (7, .int a86.1), (6, .int v54), (4, .int v28), (3, .ref (b + q21)), (0, .ref (b + 0)), (1, .ref (b + r1)), (2, .ref (b + r2))] []
          refine e_aload_n (z := tw_cz z ((((a86.2.2.1 + 1) + 1) + 2) + 1) ((((a86.2.2.2 + 4) + 16) + 36) + (Int32.toNatClampNeg (2 : Int32)))) (dw_zX X) dL_randomIsland_508 rfl 5 rfl ?_
          refine e_aload_n (z := tw_cz z ((((a86.2.2.1 + 1) + 1) + 2) + 1) ((((a86.2.2.2 + 4) + 16) + 36) + (Int32.toNatClampNeg (2 : Int32)))) (dw_zX X) dL_randomIsland_509 rfl 6 rfl ?_
          refine e_ldcS (z := tw_cz z ((((a86.2.2.1 + 1) + 1) + 2) + 1) ((((a86.2.2.2 + 4) + 16) + 36) + (Int32.toNatClampNeg (2 : Int32)))) (dw_zX X) dL_randomIsland_510 (j := 29) tw_l_W_175 ?_
          refine e_callS (c := ((((a86.2.2.1 + 1) + 1) + 2) + 1)) (s := ((((a86.2.2.2 + 4) + 16) + 36) + (Int32.toNatClampNeg (2 : Int32)))) (As := [.ref (b + 0), .ref (b + r1), .ref (tw_zS z 29)]) (z := tw_cz z ((((a86.2.2.1 + 1) + 1) + 2) + 1) ((((a86.2.2.2 + 4) + 16) + 36) + (Int32.toNatClampNeg (2 : Int32)))) (dw_zX X) (dw_zA hA) (dw_zb hb) (dw_zD hD) dw_z0 (dw_zM eMC eMS) dL_randomIsland_512 (fun Q h => dw_m_L_write (dw_zD hD) (by decide) h) dw_y_L_write dw_v_L_write _ dw_w1242 rfl ⟨dw_zf hfr rfl, dw_zl hlo rfl⟩ (Nat.le_of_ble_eq_true rfl) rfl (fun r102 => ?_)
          show dw_Rf (tw_cz z ((((a86.2.2.1 + 1) + 1) + 2) + 1) ((((a86.2.2.2 + 4) + 16) + 36) + (Int32.toNatClampNeg (2 : Int32)))) b _ r102 _ [(8, .int a86.2.1), (7, .int a86.1), (6, .int v54), (4, .int v28), (3, .ref (b + q21)), (0, .ref (b + 0)), (1, .ref (b + r1)), (2, .ref (b + r2))] []
          refine e_iinc (z := tw_cz z ((((a86.2.2.1 + 1) + 1) + 2) + 1) ((((a86.2.2.2 + 4) + 16) + 36) + (Int32.toNatClampNeg (2 : Int32)))) (dw_zX X) dL_randomIsland_515 1 rfl (v := (1 : Int32)) (by decide) (by decide) (LL := fun v103 => [(7, .int v103), (8, .int a86.2.1), (6, .int v54), (4, .int v28), (3, .ref (b + q21)), (0, .ref (b + 0)), (1, .ref (b + r1)), (2, .ref (b + r2))]) (fun _ => rfl) (fun v103 => ?_)
          refine e_goto (z := tw_cz z ((((a86.2.2.1 + 1) + 1) + 2) + 1) ((((a86.2.2.2 + 4) + 16) + 36) + (Int32.toNatClampNeg (2 : Int32)))) (dw_zX X) dL_randomIsland_518 (tgt := 410) (by decide) ?_
          exact dw_Rf.sub [0, 2, 3, 4, 5, 6, 7] rfl (hk57 (v103, r102, ((((a86.2.2.1 + 1) + 1) + 2) + 1), ((((a86.2.2.2 + 4) + 16) + 36) + (Int32.toNatClampNeg (2 : Int32)))))
        ·
          refine e_iload (z := tw_cz z a86.2.2.1 a86.2.2.2) (dw_zX X) dL_randomIsland_435 0 rfl ?_
          refine e_iconst (z := tw_cz z a86.2.2.1 a86.2.2.2) (dw_zX X) dL_randomIsland_437 (v := (1 : Int32)) (by decide) ?_
          refine e_iadd (z := tw_cz z a86.2.2.1 a86.2.2.2) (dw_zX X) dL_randomIsland_438 ?_
          refine e_iload (z := tw_cz z a86.2.2.1 a86.2.2.2) (dw_zX X) dL_randomIsland_439 3 rfl ?_
          refine e_irem (z := tw_cz z a86.2.2.1 a86.2.2.2) (dw_zX X) dL_randomIsland_441 ?_
          refine e_istore (z := tw_cz z a86.2.2.1 a86.2.2.2) (dw_zX X) dL_randomIsland_442 (by decide) (LL := fun v104 => [(8, .int v104), (7, .int a86.1), (6, .int v54), (4, .int v28), (3, .ref (b + q21)), (0, .ref (b + 0)), (1, .ref (b + r1)), (2, .ref (b + r2))]) (fun _ => rfl) (fun v104 => ?_)
          refine e_goto (z := tw_cz z a86.2.2.1 a86.2.2.2) (dw_zX X) dL_randomIsland_444 (tgt := 425) (by decide) ?_
          exact hk87 (a86.1, v104, a86.2.2.1, a86.2.2.2)
    ·
      refine e_aload_n (z := tw_cz z a51.2.2.1 a51.2.2.2) (dw_zX X) dL_randomIsland_209 rfl 6 rfl ?_
      refine e_aload_n (z := tw_cz z a51.2.2.1 a51.2.2.2) (dw_zX X) dL_randomIsland_210 rfl 3 rfl ?_
      refine e_getf (ci := 13) (T := TX13) (f := 0) (k := q21) (z := tw_cz z a51.2.2.1 a51.2.2.2) (dw_zX X) dL_randomIsland_211 (Or.inl ⟨_, dw_w591⟩) dw_in13 rfl (by decide) (by decide) (fun h => dw_E13 h) rfl ?_
      refine e_callV (k := r2) (ci := 15) (Cn := "TreasureWalkLaw$Random") (T := TX15) (N := 1) (c := a51.2.2.1) (s := a51.2.2.2) (As := [.int (dw_i a51.2.1 q21 0)]) (z := tw_cz z a51.2.2.1 a51.2.2.2) (dw_zX X) (dw_zA hA) (dw_zb hb) (dw_zD hD) dw_z0 (dw_zM eMC eMS) dL_randomIsland_214 (fun Q h => dw_m_X15_below (dw_zD hD) h) dw_y_X15_below dw_v_X15_below _ dw_w743 (by decide) rfl (fun h => dw_E15 h) rfl ⟨dw_zf hfr rfl, dw_zl hlo rfl⟩ (Nat.le_of_ble_eq_true rfl) rfl (fun r105 => ?_)
      show dw_Rf (tw_cz z a51.2.2.1 a51.2.2.2) b _ r105.2 _ [(6, .int a51.1), (5, .int v46), (4, .int v28), (3, .ref (b + q21)), (0, .ref (b + 0)), (1, .ref (b + r1)), (2, .ref (b + r2))] [.int r105.1]
      refine e_istore (z := tw_cz z a51.2.2.1 a51.2.2.2) (dw_zX X) dL_randomIsland_217 (by decide) (LL := fun v106 => [(7, .int v106), (6, .int a51.1), (5, .int v46), (4, .int v28), (3, .ref (b + q21)), (0, .ref (b + 0)), (1, .ref (b + r1)), (2, .ref (b + r2))]) (fun _ => rfl) (fun v106 => ?_)
      refine e_aload_n (z := tw_cz z a51.2.2.1 a51.2.2.2) (dw_zX X) dL_randomIsland_219 rfl 7 rfl ?_
      refine e_aload_n (z := tw_cz z a51.2.2.1 a51.2.2.2) (dw_zX X) dL_randomIsland_220 rfl 4 rfl ?_
      refine e_getf (ci := 13) (T := TX13) (f := 1) (k := q21) (z := tw_cz z a51.2.2.1 a51.2.2.2) (dw_zX X) dL_randomIsland_221 (Or.inl ⟨_, dw_w593⟩) dw_in13 rfl (by decide) (by decide) (fun h => dw_E13 h) rfl ?_
      refine e_callV (k := r2) (ci := 15) (Cn := "TreasureWalkLaw$Random") (T := TX15) (N := 1) (c := a51.2.2.1) (s := a51.2.2.2) (As := [.int (dw_i r105.2 q21 1)]) (z := tw_cz z a51.2.2.1 a51.2.2.2) (dw_zX X) (dw_zA hA) (dw_zb hb) (dw_zD hD) dw_z0 (dw_zM eMC eMS) dL_randomIsland_224 (fun Q h => dw_m_X15_below (dw_zD hD) h) dw_y_X15_below dw_v_X15_below _ dw_w743 (by decide) rfl (fun h => dw_E15 h) rfl ⟨dw_zf hfr rfl, dw_zl hlo rfl⟩ (Nat.le_of_ble_eq_true rfl) rfl (fun r107 => ?_)
      show dw_Rf (tw_cz z a51.2.2.1 a51.2.2.2) b _ r107.2 _ [(7, .int v106), (6, .int a51.1), (5, .int v46), (4, .int v28), (3, .ref (b + q21)), (0, .ref (b + 0)), (1, .ref (b + r1)), (2, .ref (b + r2))] [.int r107.1]
      refine e_istore (z := tw_cz z a51.2.2.1 a51.2.2.2) (dw_zX X) dL_randomIsland_227 (by decide) (LL := fun v108 => [(8, .int v108), (7, .int v106), (6, .int a51.1), (5, .int v46), (4, .int v28), (3, .ref (b + q21)), (0, .ref (b + 0)), (1, .ref (b + r1)), (2, .ref (b + r2))]) (fun _ => rfl) (fun v108 => ?_)
      refine e_iconst (z := tw_cz z a51.2.2.1 a51.2.2.2) (dw_zX X) dL_randomIsland_229 (v := (5 : Int32)) (by decide) ?_
      refine e_newi (c := a51.2.2.1) (s := a51.2.2.2) (z := tw_cz z a51.2.2.1 a51.2.2.2) (dw_zX X) dw_z0 (dw_zM eMC eMS) dL_randomIsland_230 hA.1.1 (fun q109 Y110 => ?_)
      show dw_Rf (tw_cz z (a51.2.2.1 + 1) (a51.2.2.2 + (Int32.toNatClampNeg (5 : Int32)))) b _ Y110 _ [(8, .int v108), (7, .int v106), (6, .int a51.1), (5, .int v46), (4, .int v28), (3, .ref (b + q21)), (0, .ref (b + 0)), (1, .ref (b + r1)), (2, .ref (b + r2))] [.ref (b + q109)]
      refine e_dup (z := tw_cz z (a51.2.2.1 + 1) (a51.2.2.2 + (Int32.toNatClampNeg (5 : Int32)))) (dw_zX X) dL_randomIsland_232 rfl ?_
      refine e_iconst (z := tw_cz z (a51.2.2.1 + 1) (a51.2.2.2 + (Int32.toNatClampNeg (5 : Int32)))) (dw_zX X) dL_randomIsland_233 (v := (0 : Int32)) (by decide) ?_
      refine e_iload (z := tw_cz z (a51.2.2.1 + 1) (a51.2.2.2 + (Int32.toNatClampNeg (5 : Int32)))) (dw_zX X) dL_randomIsland_234 1 rfl ?_
      refine e_iast (k := q109) (z := tw_cz z (a51.2.2.1 + 1) (a51.2.2.2 + (Int32.toNatClampNeg (5 : Int32)))) (dw_zX X) (dw_zb hb) dL_randomIsland_236 (fun Y111 => ?_)
      refine e_dup (z := tw_cz z (a51.2.2.1 + 1) (a51.2.2.2 + (Int32.toNatClampNeg (5 : Int32)))) (dw_zX X) dL_randomIsland_237 rfl ?_
      refine e_iconst (z := tw_cz z (a51.2.2.1 + 1) (a51.2.2.2 + (Int32.toNatClampNeg (5 : Int32)))) (dw_zX X) dL_randomIsland_238 (v := (1 : Int32)) (by decide) ?_
      refine e_iload (z := tw_cz z (a51.2.2.1 + 1) (a51.2.2.2 + (Int32.toNatClampNeg (5 : Int32)))) (dw_zX X) dL_randomIsland_239 0 rfl ?_
      refine e_iast (k := q109) (z := tw_cz z (a51.2.2.1 + 1) (a51.2.2.2 + (Int32.toNatClampNeg (5 : Int32)))) (dw_zX X) (dw_zb hb) dL_randomIsland_241 (fun Y112 => ?_)
      refine e_dup (z := tw_cz z (a51.2.2.1 + 1) (a51.2.2.2 + (Int32.toNatClampNeg (5 : Int32)))) (dw_zX X) dL_randomIsland_242 rfl ?_
      refine e_iconst (z := tw_cz z (a51.2.2.1 + 1) (a51.2.2.2 + (Int32.toNatClampNeg (5 : Int32)))) (dw_zX X) dL_randomIsland_243 (v := (2 : Int32)) (by decide) ?_
      refine e_iload (z := tw_cz z (a51.2.2.1 + 1) (a51.2.2.2 + (Int32.toNatClampNeg (5 : Int32)))) (dw_zX X) dL_randomIsland_244 1 rfl ?_
      refine e_aload_n (z := tw_cz z (a51.2.2.1 + 1) (a51.2.2.2 + (Int32.toNatClampNeg (5 : Int32)))) (dw_zX X) dL_randomIsland_246 rfl 8 rfl ?_
      refine e_aload_n (z := tw_cz z (a51.2.2.1 + 1) (a51.2.2.2 + (Int32.toNatClampNeg (5 : Int32)))) (dw_zX X) dL_randomIsland_247 rfl 5 rfl ?_
      refine e_getf (ci := 13) (T := TX13) (f := 0) (k := q21) (z := tw_cz z (a51.2.2.1 + 1) (a51.2.2.2 + (Int32.toNatClampNeg (5 : Int32)))) (dw_zX X) dL_randomIsland_248 (Or.inl ⟨_, dw_w591⟩) dw_in13 rfl (by decide) (by decide) (fun h => dw_E13 h) rfl ?_
      refine e_iload (z := tw_cz z (a51.2.2.1 + 1) (a51.2.2.2 + (Int32.toNatClampNeg (5 : Int32)))) (dw_zX X) dL_randomIsland_251 1 rfl ?_
      refine e_isub (z := tw_cz z (a51.2.2.1 + 1) (a51.2.2.2 + (Int32.toNatClampNeg (5 : Int32)))) (dw_zX X) dL_randomIsland_253 ?_
      refine e_callV (k := r2) (ci := 15) (Cn := "TreasureWalkLaw$Random") (T := TX15) (N := 1) (c := (a51.2.2.1 + 1)) (s := (a51.2.2.2 + (Int32.toNatClampNeg (5 : Int32)))) (As := [.int ((dw_i Y112 q21 0) - v106)]) (z := tw_cz z (a51.2.2.1 + 1) (a51.2.2.2 + (Int32.toNatClampNeg (5 : Int32)))) (dw_zX X) (dw_zA hA) (dw_zb hb) (dw_zD hD) dw_z0 (dw_zM eMC eMS) dL_randomIsland_254 (fun Q h => dw_m_X15_below (dw_zD hD) h) dw_y_X15_below dw_v_X15_below _ dw_w743 (by decide) rfl (fun h => dw_E15 h) rfl ⟨dw_zf hfr rfl, dw_zl hlo rfl⟩ (Nat.le_of_ble_eq_true rfl) rfl (fun r113 => ?_)
      show dw_Rf (tw_cz z (a51.2.2.1 + 1) (a51.2.2.2 + (Int32.toNatClampNeg (5 : Int32)))) b _ r113.2 _ [(8, .int v108), (7, .int v106), (6, .int a51.1), (5, .int v46), (4, .int v28), (3, .ref (b + q21)), (0, .ref (b + 0)), (1, .ref (b + r1)), (2, .ref (b + r2))] [.int r113.1, .int v106, .int (2 : Int32), .ref (b + q109), .ref (b + q109)]
      refine e_iadd (z := tw_cz z (a51.2.2.1 + 1) (a51.2.2.2 + (Int32.toNatClampNeg (5 : Int32)))) (dw_zX X) dL_randomIsland_257 ?_
      refine e_iast (k := q109) (z := tw_cz z (a51.2.2.1 + 1) (a51.2.2.2 + (Int32.toNatClampNeg (5 : Int32)))) (dw_zX X) (dw_zb hb) dL_randomIsland_258 (fun Y114 => ?_)
      refine e_dup (z := tw_cz z (a51.2.2.1 + 1) (a51.2.2.2 + (Int32.toNatClampNeg (5 : Int32)))) (dw_zX X) dL_randomIsland_259 rfl ?_
      refine e_iconst (z := tw_cz z (a51.2.2.1 + 1) (a51.2.2.2 + (Int32.toNatClampNeg (5 : Int32)))) (dw_zX X) dL_randomIsland_260 (v := (3 : Int32)) (by decide) ?_
      refine e_iload (z := tw_cz z (a51.2.2.1 + 1) (a51.2.2.2 + (Int32.toNatClampNeg (5 : Int32)))) (dw_zX X) dL_randomIsland_261 0 rfl ?_
      refine e_aload_n (z := tw_cz z (a51.2.2.1 + 1) (a51.2.2.2 + (Int32.toNatClampNeg (5 : Int32)))) (dw_zX X) dL_randomIsland_263 rfl 8 rfl ?_
      refine e_aload_n (z := tw_cz z (a51.2.2.1 + 1) (a51.2.2.2 + (Int32.toNatClampNeg (5 : Int32)))) (dw_zX X) dL_randomIsland_264 rfl 5 rfl ?_
      refine e_getf (ci := 13) (T := TX13) (f := 1) (k := q21) (z := tw_cz z (a51.2.2.1 + 1) (a51.2.2.2 + (Int32.toNatClampNeg (5 : Int32)))) (dw_zX X) dL_randomIsland_265 (Or.inl ⟨_, dw_w593⟩) dw_in13 rfl (by decide) (by decide) (fun h => dw_E13 h) rfl ?_
      refine e_iload (z := tw_cz z (a51.2.2.1 + 1) (a51.2.2.2 + (Int32.toNatClampNeg (5 : Int32)))) (dw_zX X) dL_randomIsland_268 0 rfl ?_
      refine e_isub (z := tw_cz z (a51.2.2.1 + 1) (a51.2.2.2 + (Int32.toNatClampNeg (5 : Int32)))) (dw_zX X) dL_randomIsland_270 ?_
      refine e_callV (k := r2) (ci := 15) (Cn := "TreasureWalkLaw$Random") (T := TX15) (N := 1) (c := (a51.2.2.1 + 1)) (s := (a51.2.2.2 + (Int32.toNatClampNeg (5 : Int32)))) (As := [.int ((dw_i Y114 q21 1) - v108)]) (z := tw_cz z (a51.2.2.1 + 1) (a51.2.2.2 + (Int32.toNatClampNeg (5 : Int32)))) (dw_zX X) (dw_zA hA) (dw_zb hb) (dw_zD hD) dw_z0 (dw_zM eMC eMS) dL_randomIsland_271 (fun Q h => dw_m_X15_below (dw_zD hD) h) dw_y_X15_below dw_v_X15_below _ dw_w743 (by decide) rfl (fun h => dw_E15 h) rfl ⟨dw_zf hfr rfl, dw_zl hlo rfl⟩ (Nat.le_of_ble_eq_true rfl) rfl (fun r115 => ?_)
      show dw_Rf (tw_cz z (a51.2.2.1 + 1) (a51.2.2.2 + (Int32.toNatClampNeg (5 : Int32)))) b _ r115.2 _ [(8, .int v108), (7, .int v106), (6, .int a51.1), (5, .int v46), (4, .int v28), (3, .ref (b + q21)), (0, .ref (b + 0)), (1, .ref (b + r1)), (2, .ref (b + r2))] [.int r115.1, .int v108, .int (3 : Int32), .ref (b + q109), .ref (b + q109)]
      refine e_iadd (z := tw_cz z (a51.2.2.1 + 1) (a51.2.2.2 + (Int32.toNatClampNeg (5 : Int32)))) (dw_zX X) dL_randomIsland_274 ?_
      refine e_iast (k := q109) (z := tw_cz z (a51.2.2.1 + 1) (a51.2.2.2 + (Int32.toNatClampNeg (5 : Int32)))) (dw_zX X) (dw_zb hb) dL_randomIsland_275 (fun Y116 => ?_)
      refine e_dup (z := tw_cz z (a51.2.2.1 + 1) (a51.2.2.2 + (Int32.toNatClampNeg (5 : Int32)))) (dw_zX X) dL_randomIsland_276 rfl ?_
      refine e_iconst (z := tw_cz z (a51.2.2.1 + 1) (a51.2.2.2 + (Int32.toNatClampNeg (5 : Int32)))) (dw_zX X) dL_randomIsland_277 (v := (4 : Int32)) (by decide) ?_
      refine e_aload_n (z := tw_cz z (a51.2.2.1 + 1) (a51.2.2.2 + (Int32.toNatClampNeg (5 : Int32)))) (dw_zX X) dL_randomIsland_278 rfl 8 rfl ?_
      refine e_iconst (z := tw_cz z (a51.2.2.1 + 1) (a51.2.2.2 + (Int32.toNatClampNeg (5 : Int32)))) (dw_zX X) dL_randomIsland_279 (v := (2 : Int32)) (by decide) ?_
      refine e_callV (k := r2) (ci := 15) (Cn := "TreasureWalkLaw$Random") (T := TX15) (N := 1) (c := (a51.2.2.1 + 1)) (s := (a51.2.2.2 + (Int32.toNatClampNeg (5 : Int32)))) (As := [.int (2 : Int32)]) (z := tw_cz z (a51.2.2.1 + 1) (a51.2.2.2 + (Int32.toNatClampNeg (5 : Int32)))) (dw_zX X) (dw_zA hA) (dw_zb hb) (dw_zD hD) dw_z0 (dw_zM eMC eMS) dL_randomIsland_280 (fun Q h => dw_m_X15_below (dw_zD hD) h) dw_y_X15_below dw_v_X15_below _ dw_w743 (by decide) rfl (fun h => dw_E15 h) rfl ⟨dw_zf hfr rfl, dw_zl hlo rfl⟩ (Nat.le_of_ble_eq_true rfl) rfl (fun r117 => ?_)
      show dw_Rf (tw_cz z (a51.2.2.1 + 1) (a51.2.2.2 + (Int32.toNatClampNeg (5 : Int32)))) b _ r117.2 _ [(8, .int v108), (7, .int v106), (6, .int a51.1), (5, .int v46), (4, .int v28), (3, .ref (b + q21)), (0, .ref (b + 0)), (1, .ref (b + r1)), (2, .ref (b + r2))] [.int r117.1, .int (4 : Int32), .ref (b + q109), .ref (b + q109)]
      refine e_jn (α := Int32 × dw_S) (zJ := fun a118 => tw_cz z (a51.2.2.1 + 1) (a51.2.2.2 + (Int32.toNatClampNeg (5 : Int32)))) (YJ := fun a118 => a118.2) (pcJ := 303) (LJ := fun a118 => [(6, .int a51.1), (5, .int v46), (4, .int v28), (3, .ref (b + q21)), (0, .ref (b + 0)), (1, .ref (b + r1)), (2, .ref (b + r2))]) (stJ := fun a118 => [.int a118.1, .int (4 : Int32), .ref (b + q109), .ref (b + q109)]) (fun a118 => ?_) (fun j119 hj119 => ?_)
      ·
        refine e_iast (k := q109) (z := tw_cz z (a51.2.2.1 + 1) (a51.2.2.2 + (Int32.toNatClampNeg (5 : Int32)))) (dw_zX X) (dw_zb hb) dL_randomIsland_303 (fun Y120 => ?_)
        refine e_astore (z := tw_cz z (a51.2.2.1 + 1) (a51.2.2.2 + (Int32.toNatClampNeg (5 : Int32)))) (dw_zX X) dL_randomIsland_304 (by decide) (L' := [(9, .ref (b + q109)), (6, .int a51.1), (5, .int v46), (4, .int v28), (3, .ref (b + q21)), (0, .ref (b + 0)), (1, .ref (b + r1)), (2, .ref (b + r2))]) rfl ?_
        refine e_aload_n (z := tw_cz z (a51.2.2.1 + 1) (a51.2.2.2 + (Int32.toNatClampNeg (5 : Int32)))) (dw_zX X) dL_randomIsland_306 rfl 4 rfl ?_
        refine e_getf (ci := 13) (T := TX13) (f := 5) (k := q21) (z := tw_cz z (a51.2.2.1 + 1) (a51.2.2.2 + (Int32.toNatClampNeg (5 : Int32)))) (dw_zX X) dL_randomIsland_307 (Or.inl ⟨_, dw_w601⟩) dw_in13 rfl (by decide) (by decide) (fun h => dw_E13 h) rfl ?_
        refine e_nn (r := (dw_r Y120 q21 5)) (LL := fun _ => [(9, .ref (b + q109)), (6, .int a51.1), (5, .int v46), (4, .int v28), (3, .ref (b + q21)), (0, .ref (b + 0)), (1, .ref (b + r1)), (2, .ref (b + r2))]) (SS := fun q => dw_v b q :: []) (fun r121 => ?_)
        show dw_Rf (tw_cz z (a51.2.2.1 + 1) (a51.2.2.2 + (Int32.toNatClampNeg (5 : Int32)))) b _ Y120 _ [(9, .ref (b + q109)), (6, .int a51.1), (5, .int v46), (4, .int v28), (3, .ref (b + q21)), (0, .ref (b + 0)), (1, .ref (b + r1)), (2, .ref (b + r2))] [.ref (b + r121)]
        refine e_iload (z := tw_cz z (a51.2.2.1 + 1) (a51.2.2.2 + (Int32.toNatClampNeg (5 : Int32)))) (dw_zX X) dL_randomIsland_310 1 rfl ?_
        refine e_aload (z := tw_cz z (a51.2.2.1 + 1) (a51.2.2.2 + (Int32.toNatClampNeg (5 : Int32)))) (dw_zX X) dL_randomIsland_312 0 rfl ?_
        refine e_aastA (k := r121) (z := tw_cz z (a51.2.2.1 + 1) (a51.2.2.2 + (Int32.toNatClampNeg (5 : Int32)))) (dw_zX X) (dw_zb hb) hA.2.2.1.1 dL_randomIsland_314 (fun Y122 => ?_)
        refine e_aload_n (z := tw_cz z (a51.2.2.1 + 1) (a51.2.2.2 + (Int32.toNatClampNeg (5 : Int32)))) (dw_zX X) dL_randomIsland_315 rfl 5 rfl ?_
        refine e_aload_n (z := tw_cz z (a51.2.2.1 + 1) (a51.2.2.2 + (Int32.toNatClampNeg (5 : Int32)))) (dw_zX X) dL_randomIsland_316 rfl 6 rfl ?_
        refine e_ldcS (z := tw_cz z (a51.2.2.1 + 1) (a51.2.2.2 + (Int32.toNatClampNeg (5 : Int32)))) (dw_zX X) dL_randomIsland_317 (j := 1) tw_l_W_201 ?_
        refine e_iconst (z := tw_cz z (a51.2.2.1 + 1) (a51.2.2.2 + (Int32.toNatClampNeg (5 : Int32)))) (dw_zX X) dL_randomIsland_319 (v := (4 : Int32)) (by decide) ?_
        refine e_newi (c := (a51.2.2.1 + 1)) (s := (a51.2.2.2 + (Int32.toNatClampNeg (5 : Int32)))) (z := tw_cz z (a51.2.2.1 + 1) (a51.2.2.2 + (Int32.toNatClampNeg (5 : Int32)))) (dw_zX X) dw_z0 (dw_zM eMC eMS) dL_randomIsland_320 hA.1.1 (fun q123 Y124 => ?_)
        show dw_Rf (tw_cz z ((a51.2.2.1 + 1) + 1) ((a51.2.2.2 + (Int32.toNatClampNeg (5 : Int32))) + (Int32.toNatClampNeg (4 : Int32)))) b _ Y124 _ [(9, .ref (b + q109)), (6, .int a51.1), (5, .int v46), (4, .int v28), (3, .ref (b + q21)), (0, .ref (b + 0)), (1, .ref (b + r1)), (2, .ref (b + r2))] [.ref (b + q123), .ref (tw_zS z 1), .ref (b + r1), .ref (b + 0)]
        refine e_dup (z := tw_cz z ((a51.2.2.1 + 1) + 1) ((a51.2.2.2 + (Int32.toNatClampNeg (5 : Int32))) + (Int32.toNatClampNeg (4 : Int32)))) (dw_zX X) dL_randomIsland_322 rfl ?_
        refine e_iconst (z := tw_cz z ((a51.2.2.1 + 1) + 1) ((a51.2.2.2 + (Int32.toNatClampNeg (5 : Int32))) + (Int32.toNatClampNeg (4 : Int32)))) (dw_zX X) dL_randomIsland_323 (v := (0 : Int32)) (by decide) ?_
        refine e_aload (z := tw_cz z ((a51.2.2.1 + 1) + 1) ((a51.2.2.2 + (Int32.toNatClampNeg (5 : Int32))) + (Int32.toNatClampNeg (4 : Int32)))) (dw_zX X) dL_randomIsland_324 0 rfl ?_
        refine e_iconst (z := tw_cz z ((a51.2.2.1 + 1) + 1) ((a51.2.2.2 + (Int32.toNatClampNeg (5 : Int32))) + (Int32.toNatClampNeg (4 : Int32)))) (dw_zX X) dL_randomIsland_326 (v := (0 : Int32)) (by decide) ?_
        refine e_iald (k := q109) (z := tw_cz z ((a51.2.2.1 + 1) + 1) ((a51.2.2.2 + (Int32.toNatClampNeg (5 : Int32))) + (Int32.toNatClampNeg (4 : Int32)))) (dw_zX X) dL_randomIsland_327 ?_
        refine e_iast (k := q123) (z := tw_cz z ((a51.2.2.1 + 1) + 1) ((a51.2.2.2 + (Int32.toNatClampNeg (5 : Int32))) + (Int32.toNatClampNeg (4 : Int32)))) (dw_zX X) (dw_zb hb) dL_randomIsland_328 (fun Y125 => ?_)
        refine e_dup (z := tw_cz z ((a51.2.2.1 + 1) + 1) ((a51.2.2.2 + (Int32.toNatClampNeg (5 : Int32))) + (Int32.toNatClampNeg (4 : Int32)))) (dw_zX X) dL_randomIsland_329 rfl ?_
        refine e_iconst (z := tw_cz z ((a51.2.2.1 + 1) + 1) ((a51.2.2.2 + (Int32.toNatClampNeg (5 : Int32))) + (Int32.toNatClampNeg (4 : Int32)))) (dw_zX X) dL_randomIsland_330 (v := (1 : Int32)) (by decide) ?_
        refine e_aload (z := tw_cz z ((a51.2.2.1 + 1) + 1) ((a51.2.2.2 + (Int32.toNatClampNeg (5 : Int32))) + (Int32.toNatClampNeg (4 : Int32)))) (dw_zX X) dL_randomIsland_331 0 rfl ?_
        refine e_iconst (z := tw_cz z ((a51.2.2.1 + 1) + 1) ((a51.2.2.2 + (Int32.toNatClampNeg (5 : Int32))) + (Int32.toNatClampNeg (4 : Int32)))) (dw_zX X) dL_randomIsland_333 (v := (1 : Int32)) (by decide) ?_
        refine e_iald (k := q109) (z := tw_cz z ((a51.2.2.1 + 1) + 1) ((a51.2.2.2 + (Int32.toNatClampNeg (5 : Int32))) + (Int32.toNatClampNeg (4 : Int32)))) (dw_zX X) dL_randomIsland_334 ?_
        refine e_iast (k := q123) (z := tw_cz z ((a51.2.2.1 + 1) + 1) ((a51.2.2.2 + (Int32.toNatClampNeg (5 : Int32))) + (Int32.toNatClampNeg (4 : Int32)))) (dw_zX X) (dw_zb hb) dL_randomIsland_335 (fun Y126 => ?_)
        refine e_dup (z := tw_cz z ((a51.2.2.1 + 1) + 1) ((a51.2.2.2 + (Int32.toNatClampNeg (5 : Int32))) + (Int32.toNatClampNeg (4 : Int32)))) (dw_zX X) dL_randomIsland_336 rfl ?_
        refine e_iconst (z := tw_cz z ((a51.2.2.1 + 1) + 1) ((a51.2.2.2 + (Int32.toNatClampNeg (5 : Int32))) + (Int32.toNatClampNeg (4 : Int32)))) (dw_zX X) dL_randomIsland_337 (v := (2 : Int32)) (by decide) ?_
        refine e_aload (z := tw_cz z ((a51.2.2.1 + 1) + 1) ((a51.2.2.2 + (Int32.toNatClampNeg (5 : Int32))) + (Int32.toNatClampNeg (4 : Int32)))) (dw_zX X) dL_randomIsland_338 0 rfl ?_
        refine e_iconst (z := tw_cz z ((a51.2.2.1 + 1) + 1) ((a51.2.2.2 + (Int32.toNatClampNeg (5 : Int32))) + (Int32.toNatClampNeg (4 : Int32)))) (dw_zX X) dL_randomIsland_340 (v := (2 : Int32)) (by decide) ?_
        refine e_iald (k := q109) (z := tw_cz z ((a51.2.2.1 + 1) + 1) ((a51.2.2.2 + (Int32.toNatClampNeg (5 : Int32))) + (Int32.toNatClampNeg (4 : Int32)))) (dw_zX X) dL_randomIsland_341 ?_
        refine e_iast (k := q123) (z := tw_cz z ((a51.2.2.1 + 1) + 1) ((a51.2.2.2 + (Int32.toNatClampNeg (5 : Int32))) + (Int32.toNatClampNeg (4 : Int32)))) (dw_zX X) (dw_zb hb) dL_randomIsland_342 (fun Y127 => ?_)
        refine e_dup (z := tw_cz z ((a51.2.2.1 + 1) + 1) ((a51.2.2.2 + (Int32.toNatClampNeg (5 : Int32))) + (Int32.toNatClampNeg (4 : Int32)))) (dw_zX X) dL_randomIsland_343 rfl ?_
        refine e_iconst (z := tw_cz z ((a51.2.2.1 + 1) + 1) ((a51.2.2.2 + (Int32.toNatClampNeg (5 : Int32))) + (Int32.toNatClampNeg (4 : Int32)))) (dw_zX X) dL_randomIsland_344 (v := (3 : Int32)) (by decide) ?_
        refine e_aload (z := tw_cz z ((a51.2.2.1 + 1) + 1) ((a51.2.2.2 + (Int32.toNatClampNeg (5 : Int32))) + (Int32.toNatClampNeg (4 : Int32)))) (dw_zX X) dL_randomIsland_345 0 rfl ?_
        refine e_iconst (z := tw_cz z ((a51.2.2.1 + 1) + 1) ((a51.2.2.2 + (Int32.toNatClampNeg (5 : Int32))) + (Int32.toNatClampNeg (4 : Int32)))) (dw_zX X) dL_randomIsland_347 (v := (3 : Int32)) (by decide) ?_
        refine e_iald (k := q109) (z := tw_cz z ((a51.2.2.1 + 1) + 1) ((a51.2.2.2 + (Int32.toNatClampNeg (5 : Int32))) + (Int32.toNatClampNeg (4 : Int32)))) (dw_zX X) dL_randomIsland_348 ?_
        refine e_iast (k := q123) (z := tw_cz z ((a51.2.2.1 + 1) + 1) ((a51.2.2.2 + (Int32.toNatClampNeg (5 : Int32))) + (Int32.toNatClampNeg (4 : Int32)))) (dw_zX X) (dw_zb hb) dL_randomIsland_349 (fun Y128 => ?_)
        refine e_callS (c := ((a51.2.2.1 + 1) + 1)) (s := ((a51.2.2.2 + (Int32.toNatClampNeg (5 : Int32))) + (Int32.toNatClampNeg (4 : Int32)))) (As := [.ref (b + 0), .ref (b + r1), .ref (tw_zS z 1), .ref (b + q123)]) (z := tw_cz z ((a51.2.2.1 + 1) + 1) ((a51.2.2.2 + (Int32.toNatClampNeg (5 : Int32))) + (Int32.toNatClampNeg (4 : Int32)))) (dw_zX X) (dw_zA hA) (dw_zb hb) (dw_zD hD) dw_z0 (dw_zM eMC eMS) dL_randomIsland_350 (fun Q h => dw_m_L_writeAll (dw_zD hD) (by decide) h) dw_y_L_writeAll dw_v_L_writeAll _ dw_w1239 rfl ⟨dw_zf hfr rfl, dw_zl hlo rfl⟩ (Nat.le_of_ble_eq_true rfl) rfl (fun r129 => ?_)
        show dw_Rf (tw_cz z ((a51.2.2.1 + 1) + 1) ((a51.2.2.2 + (Int32.toNatClampNeg (5 : Int32))) + (Int32.toNatClampNeg (4 : Int32)))) b _ r129 _ [(9, .ref (b + q109)), (6, .int a51.1), (5, .int v46), (4, .int v28), (3, .ref (b + q21)), (0, .ref (b + 0)), (1, .ref (b + r1)), (2, .ref (b + r2))] []
        refine e_aload_n (z := tw_cz z ((a51.2.2.1 + 1) + 1) ((a51.2.2.2 + (Int32.toNatClampNeg (5 : Int32))) + (Int32.toNatClampNeg (4 : Int32)))) (dw_zX X) dL_randomIsland_353 rfl 5 rfl ?_
        refine e_aload_n (z := tw_cz z ((a51.2.2.1 + 1) + 1) ((a51.2.2.2 + (Int32.toNatClampNeg (5 : Int32))) + (Int32.toNatClampNeg (4 : Int32)))) (dw_zX X) dL_randomIsland_354 rfl 6 rfl ?_
        refine e_aload (z := tw_cz z ((a51.2.2.1 + 1) + 1) ((a51.2.2.2 + (Int32.toNatClampNeg (5 : Int32))) + (Int32.toNatClampNeg (4 : Int32)))) (dw_zX X) dL_randomIsland_355 0 rfl ?_
        refine e_iconst (z := tw_cz z ((a51.2.2.1 + 1) + 1) ((a51.2.2.2 + (Int32.toNatClampNeg (5 : Int32))) + (Int32.toNatClampNeg (4 : Int32)))) (dw_zX X) dL_randomIsland_357 (v := (4 : Int32)) (by decide) ?_
        refine e_iald (k := q109) (z := tw_cz z ((a51.2.2.1 + 1) + 1) ((a51.2.2.2 + (Int32.toNatClampNeg (5 : Int32))) + (Int32.toNatClampNeg (4 : Int32)))) (dw_zX X) dL_randomIsland_358 ?_
        refine e_jn (α := Nat) (zJ := fun a130 => tw_cz z ((a51.2.2.1 + 1) + 1) ((a51.2.2.2 + (Int32.toNatClampNeg (5 : Int32))) + (Int32.toNatClampNeg (4 : Int32)))) (YJ := fun a130 => r129) (pcJ := 369) (LJ := fun a130 => [(9, .ref (b + q109)), (6, .int a51.1), (5, .int v46), (4, .int v28), (3, .ref (b + q21)), (0, .ref (b + 0)), (1, .ref (b + r1)), (2, .ref (b + r2))]) (stJ := fun a130 => [.ref (tw_zS z a130), .ref (b + r1), .ref (b + 0)]) (fun a130 => ?_) (fun j131 hj131 => ?_)
        ·
          refine e_ck (fun hs132 => ?_)
          refine e_iconst (z := tw_cz z ((a51.2.2.1 + 1) + 1) ((a51.2.2.2 + (Int32.toNatClampNeg (5 : Int32))) + (Int32.toNatClampNeg (4 : Int32)))) (dw_zX X) dL_randomIsland_369 (v := (1 : Int32)) (by decide) ?_
          refine e_newi (c := ((a51.2.2.1 + 1) + 1)) (s := ((a51.2.2.2 + (Int32.toNatClampNeg (5 : Int32))) + (Int32.toNatClampNeg (4 : Int32)))) (z := tw_cz z ((a51.2.2.1 + 1) + 1) ((a51.2.2.2 + (Int32.toNatClampNeg (5 : Int32))) + (Int32.toNatClampNeg (4 : Int32)))) (dw_zX X) dw_z0 (dw_zM eMC eMS) dL_randomIsland_370 hA.1.1 (fun q133 Y134 => ?_)
          show dw_Rf (tw_cz z (((a51.2.2.1 + 1) + 1) + 1) (((a51.2.2.2 + (Int32.toNatClampNeg (5 : Int32))) + (Int32.toNatClampNeg (4 : Int32))) + (Int32.toNatClampNeg (1 : Int32)))) b _ Y134 _ [(9, .ref (b + q109)), (6, .int a51.1), (5, .int v46), (4, .int v28), (3, .ref (b + q21)), (0, .ref (b + 0)), (1, .ref (b + r1)), (2, .ref (b + r2))] [.ref (b + q133), .ref (tw_zS z a130), .ref (b + r1), .ref (b + 0)]
          refine e_dup (z := tw_cz z (((a51.2.2.1 + 1) + 1) + 1) (((a51.2.2.2 + (Int32.toNatClampNeg (5 : Int32))) + (Int32.toNatClampNeg (4 : Int32))) + (Int32.toNatClampNeg (1 : Int32)))) (dw_zX X) dL_randomIsland_372 rfl ?_
          refine e_iconst (z := tw_cz z (((a51.2.2.1 + 1) + 1) + 1) (((a51.2.2.2 + (Int32.toNatClampNeg (5 : Int32))) + (Int32.toNatClampNeg (4 : Int32))) + (Int32.toNatClampNeg (1 : Int32)))) (dw_zX X) dL_randomIsland_373 (v := (0 : Int32)) (by decide) ?_
          refine e_aload (z := tw_cz z (((a51.2.2.1 + 1) + 1) + 1) (((a51.2.2.2 + (Int32.toNatClampNeg (5 : Int32))) + (Int32.toNatClampNeg (4 : Int32))) + (Int32.toNatClampNeg (1 : Int32)))) (dw_zX X) dL_randomIsland_374 0 rfl ?_
          refine e_iconst (z := tw_cz z (((a51.2.2.1 + 1) + 1) + 1) (((a51.2.2.2 + (Int32.toNatClampNeg (5 : Int32))) + (Int32.toNatClampNeg (4 : Int32))) + (Int32.toNatClampNeg (1 : Int32)))) (dw_zX X) dL_randomIsland_376 (v := (4 : Int32)) (by decide) ?_
          refine e_iald (k := q109) (z := tw_cz z (((a51.2.2.1 + 1) + 1) + 1) (((a51.2.2.2 + (Int32.toNatClampNeg (5 : Int32))) + (Int32.toNatClampNeg (4 : Int32))) + (Int32.toNatClampNeg (1 : Int32)))) (dw_zX X) dL_randomIsland_377 ?_
          refine e_ck (fun hm135 => ?_)
          refine e_mabs (z := tw_cz z (((a51.2.2.1 + 1) + 1) + 1) (((a51.2.2.2 + (Int32.toNatClampNeg (5 : Int32))) + (Int32.toNatClampNeg (4 : Int32))) + (Int32.toNatClampNeg (1 : Int32)))) X ⟨by show (((a51.2.2.1 + 1) + 1) + 1) ≤ (tw_zR z).cells; rw [eMC]; exact hm135.1, by show (((a51.2.2.2 + (Int32.toNatClampNeg (5 : Int32))) + (Int32.toNatClampNeg (4 : Int32))) + (Int32.toNatClampNeg (1 : Int32))) ≤ (tw_zR z).slots; rw [eMS]; exact hm135.2⟩ dL_randomIsland_378 _ dw_w1271 (tw_le hfr rfl) (tw_le hlo rfl) (Nat.le_of_ble_eq_true rfl) ?_
          refine e_iast (k := q133) (z := tw_cz z (((a51.2.2.1 + 1) + 1) + 1) (((a51.2.2.2 + (Int32.toNatClampNeg (5 : Int32))) + (Int32.toNatClampNeg (4 : Int32))) + (Int32.toNatClampNeg (1 : Int32)))) (dw_zX X) (dw_zb hb) dL_randomIsland_381 (fun Y136 => ?_)
          refine e_callS (c := (((a51.2.2.1 + 1) + 1) + 1)) (s := (((a51.2.2.2 + (Int32.toNatClampNeg (5 : Int32))) + (Int32.toNatClampNeg (4 : Int32))) + (Int32.toNatClampNeg (1 : Int32)))) (As := [.ref (b + 0), .ref (b + r1), .ref (tw_zS z a130), .ref (b + q133)]) (z := tw_cz z (((a51.2.2.1 + 1) + 1) + 1) (((a51.2.2.2 + (Int32.toNatClampNeg (5 : Int32))) + (Int32.toNatClampNeg (4 : Int32))) + (Int32.toNatClampNeg (1 : Int32)))) (dw_zX X) (dw_zA hA) (dw_zb hb) (dw_zD hD) dw_z0 (dw_zM eMC eMS) dL_randomIsland_382 (fun Q h => dw_m_L_writeAll hD hs132 h) dw_y_L_writeAll dw_v_L_writeAll _ dw_w1239 rfl ⟨dw_zf hfr rfl, dw_zl hlo rfl⟩ (Nat.le_of_ble_eq_true rfl) rfl (fun r137 => ?_)
          show dw_Rf (tw_cz z (((a51.2.2.1 + 1) + 1) + 1) (((a51.2.2.2 + (Int32.toNatClampNeg (5 : Int32))) + (Int32.toNatClampNeg (4 : Int32))) + (Int32.toNatClampNeg (1 : Int32)))) b _ r137 _ [(9, .ref (b + q109)), (6, .int a51.1), (5, .int v46), (4, .int v28), (3, .ref (b + q21)), (0, .ref (b + 0)), (1, .ref (b + r1)), (2, .ref (b + r2))] []
          refine e_aload_n (z := tw_cz z (((a51.2.2.1 + 1) + 1) + 1) (((a51.2.2.2 + (Int32.toNatClampNeg (5 : Int32))) + (Int32.toNatClampNeg (4 : Int32))) + (Int32.toNatClampNeg (1 : Int32)))) (dw_zX X) dL_randomIsland_385 rfl 5 rfl ?_
          refine e_aload_n (z := tw_cz z (((a51.2.2.1 + 1) + 1) + 1) (((a51.2.2.2 + (Int32.toNatClampNeg (5 : Int32))) + (Int32.toNatClampNeg (4 : Int32))) + (Int32.toNatClampNeg (1 : Int32)))) (dw_zX X) dL_randomIsland_386 rfl 6 rfl ?_
          refine e_ldcS (z := tw_cz z (((a51.2.2.1 + 1) + 1) + 1) (((a51.2.2.2 + (Int32.toNatClampNeg (5 : Int32))) + (Int32.toNatClampNeg (4 : Int32))) + (Int32.toNatClampNeg (1 : Int32)))) (dw_zX X) dL_randomIsland_387 (j := 29) tw_l_W_175 ?_
          refine e_callS (c := (((a51.2.2.1 + 1) + 1) + 1)) (s := (((a51.2.2.2 + (Int32.toNatClampNeg (5 : Int32))) + (Int32.toNatClampNeg (4 : Int32))) + (Int32.toNatClampNeg (1 : Int32)))) (As := [.ref (b + 0), .ref (b + r1), .ref (tw_zS z 29)]) (z := tw_cz z (((a51.2.2.1 + 1) + 1) + 1) (((a51.2.2.2 + (Int32.toNatClampNeg (5 : Int32))) + (Int32.toNatClampNeg (4 : Int32))) + (Int32.toNatClampNeg (1 : Int32)))) (dw_zX X) (dw_zA hA) (dw_zb hb) (dw_zD hD) dw_z0 (dw_zM eMC eMS) dL_randomIsland_389 (fun Q h => dw_m_L_write (dw_zD hD) (by decide) h) dw_y_L_write dw_v_L_write _ dw_w1242 rfl ⟨dw_zf hfr rfl, dw_zl hlo rfl⟩ (Nat.le_of_ble_eq_true rfl) rfl (fun r138 => ?_)
          show dw_Rf (tw_cz z (((a51.2.2.1 + 1) + 1) + 1) (((a51.2.2.2 + (Int32.toNatClampNeg (5 : Int32))) + (Int32.toNatClampNeg (4 : Int32))) + (Int32.toNatClampNeg (1 : Int32)))) b _ r138 _ [(9, .ref (b + q109)), (6, .int a51.1), (5, .int v46), (4, .int v28), (3, .ref (b + q21)), (0, .ref (b + 0)), (1, .ref (b + r1)), (2, .ref (b + r2))] []
          refine e_iinc (z := tw_cz z (((a51.2.2.1 + 1) + 1) + 1) (((a51.2.2.2 + (Int32.toNatClampNeg (5 : Int32))) + (Int32.toNatClampNeg (4 : Int32))) + (Int32.toNatClampNeg (1 : Int32)))) (dw_zX X) dL_randomIsland_392 1 rfl (v := (1 : Int32)) (by decide) (by decide) (LL := fun v139 => [(6, .int v139), (9, .ref (b + q109)), (5, .int v46), (4, .int v28), (3, .ref (b + q21)), (0, .ref (b + 0)), (1, .ref (b + r1)), (2, .ref (b + r2))]) (fun _ => rfl) (fun v139 => ?_)
          refine e_goto (z := tw_cz z (((a51.2.2.1 + 1) + 1) + 1) (((a51.2.2.2 + (Int32.toNatClampNeg (5 : Int32))) + (Int32.toNatClampNeg (4 : Int32))) + (Int32.toNatClampNeg (1 : Int32)))) (dw_zX X) dL_randomIsland_395 (tgt := 202) (by decide) ?_
          exact dw_Rf.sub [0, 2, 3, 4, 5, 6, 7] rfl (hk52 (v139, r138, (((a51.2.2.1 + 1) + 1) + 1), (((a51.2.2.2 + (Int32.toNatClampNeg (5 : Int32))) + (Int32.toNatClampNeg (4 : Int32))) + (Int32.toNatClampNeg (1 : Int32)))))
        refine e_if_ge (z := tw_cz z ((a51.2.2.1 + 1) + 1) ((a51.2.2.2 + (Int32.toNatClampNeg (5 : Int32))) + (Int32.toNatClampNeg (4 : Int32)))) (dw_zX X) dL_randomIsland_359 (tgt := 367) (by decide) ?_ ?_
        ·
          refine e_ldcS (z := tw_cz z ((a51.2.2.1 + 1) + 1) ((a51.2.2.2 + (Int32.toNatClampNeg (5 : Int32))) + (Int32.toNatClampNeg (4 : Int32)))) (dw_zX X) dL_randomIsland_367 (j := 31) tw_l_W_205 ?_
          exact hj131 31
        ·
          refine e_ldcS (z := tw_cz z ((a51.2.2.1 + 1) + 1) ((a51.2.2.2 + (Int32.toNatClampNeg (5 : Int32))) + (Int32.toNatClampNeg (4 : Int32)))) (dw_zX X) dL_randomIsland_362 (j := 30) tw_l_W_203 ?_
          refine e_goto (z := tw_cz z ((a51.2.2.1 + 1) + 1) ((a51.2.2.2 + (Int32.toNatClampNeg (5 : Int32))) + (Int32.toNatClampNeg (4 : Int32)))) (dw_zX X) dL_randomIsland_364 (tgt := 369) (by decide) ?_
          exact hj131 30
      refine e_if_ne (z := tw_cz z (a51.2.2.1 + 1) (a51.2.2.2 + (Int32.toNatClampNeg (5 : Int32)))) (dw_zX X) dL_randomIsland_283 (tgt := 296) (by decide) ?_ ?_
      ·
        refine e_iconst (z := tw_cz z (a51.2.2.1 + 1) (a51.2.2.2 + (Int32.toNatClampNeg (5 : Int32)))) (dw_zX X) dL_randomIsland_296 (v := (-1 : Int32)) (by decide) ?_
        refine e_aload_n (z := tw_cz z (a51.2.2.1 + 1) (a51.2.2.2 + (Int32.toNatClampNeg (5 : Int32)))) (dw_zX X) dL_randomIsland_297 rfl 8 rfl ?_
        refine e_iconst (z := tw_cz z (a51.2.2.1 + 1) (a51.2.2.2 + (Int32.toNatClampNeg (5 : Int32)))) (dw_zX X) dL_randomIsland_298 (v := (3 : Int32)) (by decide) ?_
        refine e_callV (k := r2) (ci := 15) (Cn := "TreasureWalkLaw$Random") (T := TX15) (N := 1) (c := (a51.2.2.1 + 1)) (s := (a51.2.2.2 + (Int32.toNatClampNeg (5 : Int32)))) (As := [.int (3 : Int32)]) (z := tw_cz z (a51.2.2.1 + 1) (a51.2.2.2 + (Int32.toNatClampNeg (5 : Int32)))) (dw_zX X) (dw_zA hA) (dw_zb hb) (dw_zD hD) dw_z0 (dw_zM eMC eMS) dL_randomIsland_299 (fun Q h => dw_m_X15_below (dw_zD hD) h) dw_y_X15_below dw_v_X15_below _ dw_w743 (by decide) rfl (fun h => dw_E15 h) rfl ⟨dw_zf hfr rfl, dw_zl hlo rfl⟩ (Nat.le_of_ble_eq_true rfl) rfl (fun r140 => ?_)
        show dw_Rf (tw_cz z (a51.2.2.1 + 1) (a51.2.2.2 + (Int32.toNatClampNeg (5 : Int32)))) b _ r140.2 _ [(8, .int v108), (7, .int v106), (6, .int a51.1), (5, .int v46), (4, .int v28), (3, .ref (b + q21)), (0, .ref (b + 0)), (1, .ref (b + r1)), (2, .ref (b + r2))] [.int r140.1, .int (-1 : Int32), .int (4 : Int32), .ref (b + q109), .ref (b + q109)]
        refine e_isub (z := tw_cz z (a51.2.2.1 + 1) (a51.2.2.2 + (Int32.toNatClampNeg (5 : Int32)))) (dw_zX X) dL_randomIsland_302 ?_
        exact dw_Rf.sub [2, 3, 4, 5, 6, 7, 8] rfl (hj119 (((-1 : Int32) - r140.1), r140.2))
      ·
        refine e_iconst (z := tw_cz z (a51.2.2.1 + 1) (a51.2.2.2 + (Int32.toNatClampNeg (5 : Int32)))) (dw_zX X) dL_randomIsland_286 (v := (1 : Int32)) (by decide) ?_
        refine e_aload_n (z := tw_cz z (a51.2.2.1 + 1) (a51.2.2.2 + (Int32.toNatClampNeg (5 : Int32)))) (dw_zX X) dL_randomIsland_287 rfl 8 rfl ?_
        refine e_iconst (z := tw_cz z (a51.2.2.1 + 1) (a51.2.2.2 + (Int32.toNatClampNeg (5 : Int32)))) (dw_zX X) dL_randomIsland_288 (v := (3 : Int32)) (by decide) ?_
        refine e_callV (k := r2) (ci := 15) (Cn := "TreasureWalkLaw$Random") (T := TX15) (N := 1) (c := (a51.2.2.1 + 1)) (s := (a51.2.2.2 + (Int32.toNatClampNeg (5 : Int32)))) (As := [.int (3 : Int32)]) (z := tw_cz z (a51.2.2.1 + 1) (a51.2.2.2 + (Int32.toNatClampNeg (5 : Int32)))) (dw_zX X) (dw_zA hA) (dw_zb hb) (dw_zD hD) dw_z0 (dw_zM eMC eMS) dL_randomIsland_289 (fun Q h => dw_m_X15_below (dw_zD hD) h) dw_y_X15_below dw_v_X15_below _ dw_w743 (by decide) rfl (fun h => dw_E15 h) rfl ⟨dw_zf hfr rfl, dw_zl hlo rfl⟩ (Nat.le_of_ble_eq_true rfl) rfl (fun r141 => ?_)
        show dw_Rf (tw_cz z (a51.2.2.1 + 1) (a51.2.2.2 + (Int32.toNatClampNeg (5 : Int32)))) b _ r141.2 _ [(8, .int v108), (7, .int v106), (6, .int a51.1), (5, .int v46), (4, .int v28), (3, .ref (b + q21)), (0, .ref (b + 0)), (1, .ref (b + r1)), (2, .ref (b + r2))] [.int r141.1, .int (1 : Int32), .int (4 : Int32), .ref (b + q109), .ref (b + q109)]
        refine e_iadd (z := tw_cz z (a51.2.2.1 + 1) (a51.2.2.2 + (Int32.toNatClampNeg (5 : Int32)))) (dw_zX X) dL_randomIsland_292 ?_
        refine e_goto (z := tw_cz z (a51.2.2.1 + 1) (a51.2.2.2 + (Int32.toNatClampNeg (5 : Int32)))) (dw_zX X) dL_randomIsland_293 (tgt := 303) (by decide) ?_
        exact dw_Rf.sub [2, 3, 4, 5, 6, 7, 8] rfl (hj119 (((1 : Int32) + r141.1), r141.2))
  ·
    refine e_iconst (z := tw_cz z a43.2.2.1 a43.2.2.2) (dw_zX X) dL_randomIsland_100 (v := (1 : Int32)) (by decide) ?_
    refine e_aload_n (z := tw_cz z a43.2.2.1 a43.2.2.2) (dw_zX X) dL_randomIsland_101 rfl 5 rfl ?_
    refine e_iload (z := tw_cz z a43.2.2.1 a43.2.2.2) (dw_zX X) dL_randomIsland_102 1 rfl ?_
    refine e_iconst (z := tw_cz z a43.2.2.1 a43.2.2.2) (dw_zX X) dL_randomIsland_104 (v := (1 : Int32)) (by decide) ?_
    refine e_isub (z := tw_cz z a43.2.2.1 a43.2.2.2) (dw_zX X) dL_randomIsland_105 ?_
    refine e_callV (k := r2) (ci := 15) (Cn := "TreasureWalkLaw$Random") (T := TX15) (N := 1) (c := a43.2.2.1) (s := a43.2.2.2) (As := [.int (v28 - (1 : Int32))]) (z := tw_cz z a43.2.2.1 a43.2.2.2) (dw_zX X) (dw_zA hA) (dw_zb hb) (dw_zD hD) dw_z0 (dw_zM eMC eMS) dL_randomIsland_106 (fun Q h => dw_m_X15_below (dw_zD hD) h) dw_y_X15_below dw_v_X15_below _ dw_w743 (by decide) rfl (fun h => dw_E15 h) rfl ⟨dw_zf hfr rfl, dw_zl hlo rfl⟩ (Nat.le_of_ble_eq_true rfl) rfl (fun r142 => ?_)
    show dw_Rf (tw_cz z a43.2.2.1 a43.2.2.2) b _ r142.2 _ [(5, .int a43.1), (4, .int v28), (3, .ref (b + q21)), (0, .ref (b + 0)), (1, .ref (b + r1)), (2, .ref (b + r2))] [.int r142.1, .int (1 : Int32)]
    refine e_iadd (z := tw_cz z a43.2.2.1 a43.2.2.2) (dw_zX X) dL_randomIsland_109 ?_
    refine e_istore (z := tw_cz z a43.2.2.1 a43.2.2.2) (dw_zX X) dL_randomIsland_110 (by decide) (LL := fun v143 => [(6, .int v143), (5, .int a43.1), (4, .int v28), (3, .ref (b + q21)), (0, .ref (b + 0)), (1, .ref (b + r1)), (2, .ref (b + r2))]) (fun _ => rfl) (fun v143 => ?_)
    refine e_aload_n (z := tw_cz z a43.2.2.1 a43.2.2.2) (dw_zX X) dL_randomIsland_112 rfl 3 rfl ?_
    refine e_getf (ci := 13) (T := TX13) (f := 2) (k := q21) (z := tw_cz z a43.2.2.1 a43.2.2.2) (dw_zX X) dL_randomIsland_113 (Or.inl ⟨_, dw_w595⟩) dw_in13 rfl (by decide) (by decide) (fun h => dw_E13 h) rfl ?_
    refine e_nn (r := (dw_r r142.2 q21 2)) (LL := fun _ => [(6, .int v143), (5, .int a43.1), (4, .int v28), (3, .ref (b + q21)), (0, .ref (b + 0)), (1, .ref (b + r1)), (2, .ref (b + r2))]) (SS := fun q => dw_v b q :: []) (fun r144 => ?_)
    show dw_Rf (tw_cz z a43.2.2.1 a43.2.2.2) b _ r142.2 _ [(6, .int v143), (5, .int a43.1), (4, .int v28), (3, .ref (b + q21)), (0, .ref (b + 0)), (1, .ref (b + r1)), (2, .ref (b + r2))] [.ref (b + r144)]
    refine e_iload (z := tw_cz z a43.2.2.1 a43.2.2.2) (dw_zX X) dL_randomIsland_116 0 rfl ?_
    refine e_iconst (z := tw_cz z a43.2.2.1 a43.2.2.2) (dw_zX X) dL_randomIsland_118 (v := (1 : Int32)) (by decide) ?_
    refine e_zast (k := r144) (z := tw_cz z a43.2.2.1 a43.2.2.2) (dw_zX X) (dw_zb hb) dL_randomIsland_119 (fun Y145 => ?_)
    refine e_aload_n (z := tw_cz z a43.2.2.1 a43.2.2.2) (dw_zX X) dL_randomIsland_120 rfl 4 rfl ?_
    refine e_aload_n (z := tw_cz z a43.2.2.1 a43.2.2.2) (dw_zX X) dL_randomIsland_121 rfl 5 rfl ?_
    refine e_ldcS (z := tw_cz z a43.2.2.1 a43.2.2.2) (dw_zX X) dL_randomIsland_122 (j := 0) tw_l_W_194 ?_
    refine e_iconst (z := tw_cz z a43.2.2.1 a43.2.2.2) (dw_zX X) dL_randomIsland_124 (v := (4 : Int32)) (by decide) ?_
    refine e_newi (c := a43.2.2.1) (s := a43.2.2.2) (z := tw_cz z a43.2.2.1 a43.2.2.2) (dw_zX X) dw_z0 (dw_zM eMC eMS) dL_randomIsland_125 hA.1.1 (fun q146 Y147 => ?_)
    show dw_Rf (tw_cz z (a43.2.2.1 + 1) (a43.2.2.2 + (Int32.toNatClampNeg (4 : Int32)))) b _ Y147 _ [(6, .int v143), (5, .int a43.1), (4, .int v28), (3, .ref (b + q21)), (0, .ref (b + 0)), (1, .ref (b + r1)), (2, .ref (b + r2))] [.ref (b + q146), .ref (tw_zS z 0), .ref (b + r1), .ref (b + 0)]
    refine e_dup (z := tw_cz z (a43.2.2.1 + 1) (a43.2.2.2 + (Int32.toNatClampNeg (4 : Int32)))) (dw_zX X) dL_randomIsland_127 rfl ?_
    refine e_iconst (z := tw_cz z (a43.2.2.1 + 1) (a43.2.2.2 + (Int32.toNatClampNeg (4 : Int32)))) (dw_zX X) dL_randomIsland_128 (v := (0 : Int32)) (by decide) ?_
    refine e_iload (z := tw_cz z (a43.2.2.1 + 1) (a43.2.2.2 + (Int32.toNatClampNeg (4 : Int32)))) (dw_zX X) dL_randomIsland_129 0 rfl ?_
    refine e_aload_n (z := tw_cz z (a43.2.2.1 + 1) (a43.2.2.2 + (Int32.toNatClampNeg (4 : Int32)))) (dw_zX X) dL_randomIsland_131 rfl 3 rfl ?_
    refine e_getf (ci := 13) (T := TX13) (f := 0) (k := q21) (z := tw_cz z (a43.2.2.1 + 1) (a43.2.2.2 + (Int32.toNatClampNeg (4 : Int32)))) (dw_zX X) dL_randomIsland_132 (Or.inl ⟨_, dw_w591⟩) dw_in13 rfl (by decide) (by decide) (fun h => dw_E13 h) rfl ?_
    refine e_irem (z := tw_cz z (a43.2.2.1 + 1) (a43.2.2.2 + (Int32.toNatClampNeg (4 : Int32)))) (dw_zX X) dL_randomIsland_135 ?_
    refine e_iast (k := q146) (z := tw_cz z (a43.2.2.1 + 1) (a43.2.2.2 + (Int32.toNatClampNeg (4 : Int32)))) (dw_zX X) (dw_zb hb) dL_randomIsland_136 (fun Y148 => ?_)
    refine e_dup (z := tw_cz z (a43.2.2.1 + 1) (a43.2.2.2 + (Int32.toNatClampNeg (4 : Int32)))) (dw_zX X) dL_randomIsland_137 rfl ?_
    refine e_iconst (z := tw_cz z (a43.2.2.1 + 1) (a43.2.2.2 + (Int32.toNatClampNeg (4 : Int32)))) (dw_zX X) dL_randomIsland_138 (v := (1 : Int32)) (by decide) ?_
    refine e_iload (z := tw_cz z (a43.2.2.1 + 1) (a43.2.2.2 + (Int32.toNatClampNeg (4 : Int32)))) (dw_zX X) dL_randomIsland_139 0 rfl ?_
    refine e_aload_n (z := tw_cz z (a43.2.2.1 + 1) (a43.2.2.2 + (Int32.toNatClampNeg (4 : Int32)))) (dw_zX X) dL_randomIsland_141 rfl 3 rfl ?_
    refine e_getf (ci := 13) (T := TX13) (f := 0) (k := q21) (z := tw_cz z (a43.2.2.1 + 1) (a43.2.2.2 + (Int32.toNatClampNeg (4 : Int32)))) (dw_zX X) dL_randomIsland_142 (Or.inl ⟨_, dw_w591⟩) dw_in13 rfl (by decide) (by decide) (fun h => dw_E13 h) rfl ?_
    refine e_idiv (z := tw_cz z (a43.2.2.1 + 1) (a43.2.2.2 + (Int32.toNatClampNeg (4 : Int32)))) (dw_zX X) dL_randomIsland_145 ?_
    refine e_iast (k := q146) (z := tw_cz z (a43.2.2.1 + 1) (a43.2.2.2 + (Int32.toNatClampNeg (4 : Int32)))) (dw_zX X) (dw_zb hb) dL_randomIsland_146 (fun Y149 => ?_)
    refine e_dup (z := tw_cz z (a43.2.2.1 + 1) (a43.2.2.2 + (Int32.toNatClampNeg (4 : Int32)))) (dw_zX X) dL_randomIsland_147 rfl ?_
    refine e_iconst (z := tw_cz z (a43.2.2.1 + 1) (a43.2.2.2 + (Int32.toNatClampNeg (4 : Int32)))) (dw_zX X) dL_randomIsland_148 (v := (2 : Int32)) (by decide) ?_
    refine e_iload (z := tw_cz z (a43.2.2.1 + 1) (a43.2.2.2 + (Int32.toNatClampNeg (4 : Int32)))) (dw_zX X) dL_randomIsland_149 0 rfl ?_
    refine e_aload_n (z := tw_cz z (a43.2.2.1 + 1) (a43.2.2.2 + (Int32.toNatClampNeg (4 : Int32)))) (dw_zX X) dL_randomIsland_151 rfl 3 rfl ?_
    refine e_getf (ci := 13) (T := TX13) (f := 0) (k := q21) (z := tw_cz z (a43.2.2.1 + 1) (a43.2.2.2 + (Int32.toNatClampNeg (4 : Int32)))) (dw_zX X) dL_randomIsland_152 (Or.inl ⟨_, dw_w591⟩) dw_in13 rfl (by decide) (by decide) (fun h => dw_E13 h) rfl ?_
    refine e_irem (z := tw_cz z (a43.2.2.1 + 1) (a43.2.2.2 + (Int32.toNatClampNeg (4 : Int32)))) (dw_zX X) dL_randomIsland_155 ?_
    refine e_iast (k := q146) (z := tw_cz z (a43.2.2.1 + 1) (a43.2.2.2 + (Int32.toNatClampNeg (4 : Int32)))) (dw_zX X) (dw_zb hb) dL_randomIsland_156 (fun Y150 => ?_)
    refine e_dup (z := tw_cz z (a43.2.2.1 + 1) (a43.2.2.2 + (Int32.toNatClampNeg (4 : Int32)))) (dw_zX X) dL_randomIsland_157 rfl ?_
    refine e_iconst (z := tw_cz z (a43.2.2.1 + 1) (a43.2.2.2 + (Int32.toNatClampNeg (4 : Int32)))) (dw_zX X) dL_randomIsland_158 (v := (3 : Int32)) (by decide) ?_
    refine e_iload (z := tw_cz z (a43.2.2.1 + 1) (a43.2.2.2 + (Int32.toNatClampNeg (4 : Int32)))) (dw_zX X) dL_randomIsland_159 0 rfl ?_
    refine e_aload_n (z := tw_cz z (a43.2.2.1 + 1) (a43.2.2.2 + (Int32.toNatClampNeg (4 : Int32)))) (dw_zX X) dL_randomIsland_161 rfl 3 rfl ?_
    refine e_getf (ci := 13) (T := TX13) (f := 0) (k := q21) (z := tw_cz z (a43.2.2.1 + 1) (a43.2.2.2 + (Int32.toNatClampNeg (4 : Int32)))) (dw_zX X) dL_randomIsland_162 (Or.inl ⟨_, dw_w591⟩) dw_in13 rfl (by decide) (by decide) (fun h => dw_E13 h) rfl ?_
    refine e_idiv (z := tw_cz z (a43.2.2.1 + 1) (a43.2.2.2 + (Int32.toNatClampNeg (4 : Int32)))) (dw_zX X) dL_randomIsland_165 ?_
    refine e_iast (k := q146) (z := tw_cz z (a43.2.2.1 + 1) (a43.2.2.2 + (Int32.toNatClampNeg (4 : Int32)))) (dw_zX X) (dw_zb hb) dL_randomIsland_166 (fun Y151 => ?_)
    refine e_callS (c := (a43.2.2.1 + 1)) (s := (a43.2.2.2 + (Int32.toNatClampNeg (4 : Int32)))) (As := [.ref (b + 0), .ref (b + r1), .ref (tw_zS z 0), .ref (b + q146)]) (z := tw_cz z (a43.2.2.1 + 1) (a43.2.2.2 + (Int32.toNatClampNeg (4 : Int32)))) (dw_zX X) (dw_zA hA) (dw_zb hb) (dw_zD hD) dw_z0 (dw_zM eMC eMS) dL_randomIsland_167 (fun Q h => dw_m_L_writeAll (dw_zD hD) (by decide) h) dw_y_L_writeAll dw_v_L_writeAll _ dw_w1239 rfl ⟨dw_zf hfr rfl, dw_zl hlo rfl⟩ (Nat.le_of_ble_eq_true rfl) rfl (fun r152 => ?_)
    show dw_Rf (tw_cz z (a43.2.2.1 + 1) (a43.2.2.2 + (Int32.toNatClampNeg (4 : Int32)))) b _ r152 _ [(6, .int v143), (5, .int a43.1), (4, .int v28), (3, .ref (b + q21)), (0, .ref (b + 0)), (1, .ref (b + r1)), (2, .ref (b + r2))] []
    refine e_aload_n (z := tw_cz z (a43.2.2.1 + 1) (a43.2.2.2 + (Int32.toNatClampNeg (4 : Int32)))) (dw_zX X) dL_randomIsland_170 rfl 4 rfl ?_
    refine e_aload_n (z := tw_cz z (a43.2.2.1 + 1) (a43.2.2.2 + (Int32.toNatClampNeg (4 : Int32)))) (dw_zX X) dL_randomIsland_171 rfl 5 rfl ?_
    refine e_ldcS (z := tw_cz z (a43.2.2.1 + 1) (a43.2.2.2 + (Int32.toNatClampNeg (4 : Int32)))) (dw_zX X) dL_randomIsland_172 (j := 29) tw_l_W_175 ?_
    refine e_callS (c := (a43.2.2.1 + 1)) (s := (a43.2.2.2 + (Int32.toNatClampNeg (4 : Int32)))) (As := [.ref (b + 0), .ref (b + r1), .ref (tw_zS z 29)]) (z := tw_cz z (a43.2.2.1 + 1) (a43.2.2.2 + (Int32.toNatClampNeg (4 : Int32)))) (dw_zX X) (dw_zA hA) (dw_zb hb) (dw_zD hD) dw_z0 (dw_zM eMC eMS) dL_randomIsland_174 (fun Q h => dw_m_L_write (dw_zD hD) (by decide) h) dw_y_L_write dw_v_L_write _ dw_w1242 rfl ⟨dw_zf hfr rfl, dw_zl hlo rfl⟩ (Nat.le_of_ble_eq_true rfl) rfl (fun r153 => ?_)
    show dw_Rf (tw_cz z (a43.2.2.1 + 1) (a43.2.2.2 + (Int32.toNatClampNeg (4 : Int32)))) b _ r153 _ [(6, .int v143), (5, .int a43.1), (4, .int v28), (3, .ref (b + q21)), (0, .ref (b + 0)), (1, .ref (b + r1)), (2, .ref (b + r2))] []
    refine e_iinc (z := tw_cz z (a43.2.2.1 + 1) (a43.2.2.2 + (Int32.toNatClampNeg (4 : Int32)))) (dw_zX X) dL_randomIsland_177 1 rfl (v := (-1 : Int32)) (by decide) (by decide) (LL := fun v154 => [(5, .int v154), (6, .int v143), (4, .int v28), (3, .ref (b + q21)), (0, .ref (b + 0)), (1, .ref (b + r1)), (2, .ref (b + r2))]) (fun _ => rfl) (fun v154 => ?_)
    refine e_goto (z := tw_cz z (a43.2.2.1 + 1) (a43.2.2.2 + (Int32.toNatClampNeg (4 : Int32)))) (dw_zX X) dL_randomIsland_180 (tgt := 95) (by decide) ?_
    exact dw_Rf.sub [0, 2, 3, 4, 5, 6] rfl (hk44 (v154, r153, (a43.2.2.1 + 1), (a43.2.2.2 + (Int32.toNatClampNeg (4 : Int32)))))
