theorem dw_w68 : lw_tbl[68]? = some ((Jvm.Cond.initialized "TreasureWalkLaw$Leg")) := by decide +kernel
theorem dw_w668 : lw_tbl[668]? = some ((Jvm.Cond.fieldLink "TreasureWalkLaw" (115 : Nat) "TreasureWalkLaw$Clue" "starts" "[I")) := by decide +kernel
theorem dw_w671 : lw_tbl[671]? = some ((Jvm.Cond.fieldLink "TreasureWalkLaw" (141 : Nat) "TreasureWalkLaw$Clue" "legs" "[LTreasureWalkLaw$Leg;")) := by decide +kernel
theorem dw_w743 : lw_tbl[743]? = some ((Jvm.Cond.methodLink "TreasureWalkLaw" (110 : Nat) ({ cls := "TreasureWalkLaw$Random", name := "below", desc := "(I)I" } : Jvm.MethodName))) := by decide +kernel
theorem dw_w1239 : lw_tbl[1239]? = some ((Jvm.Cond.methodLink "TreasureWalkLaw" (161 : Nat) ({ cls := "TreasureWalkLaw", name := "writeAll", desc := "(LTreasureWalk;[ILjava/lang/String;[I)V" } : Jvm.MethodName))) := by decide +kernel
theorem dw_w1272 : lw_tbl[1272]? = some ((Jvm.Cond.classLink "TreasureWalkLaw" (124 : Nat) "java/lang/StringBuilder")) := by decide +kernel
theorem dw_w1273 : lw_tbl[1273]? = some ((Jvm.Cond.instantiable "java/lang/StringBuilder" (4 : Nat))) := by decide +kernel
theorem dw_w1274 : lw_tbl[1274]? = some ((Jvm.Cond.methodLink "TreasureWalkLaw" (126 : Nat) ({ cls := "java/lang/StringBuilder", name := "<init>", desc := "()V" } : Jvm.MethodName))) := by decide +kernel
theorem dw_w1303 : lw_tbl[1303]? = some ((Jvm.Cond.methodLink "TreasureWalkLaw" (129 : Nat) ({ cls := "java/lang/StringBuilder", name := "append", desc := "(Ljava/lang/String;)Ljava/lang/StringBuilder;" } : Jvm.MethodName))) := by decide +kernel
theorem dw_w1396 : lw_tbl[1396]? = some ((Jvm.Cond.methodLink "TreasureWalkLaw" (132 : Nat) ({ cls := "java/lang/StringBuilder", name := "append", desc := "(C)Ljava/lang/StringBuilder;" } : Jvm.MethodName))) := by decide +kernel
theorem dw_w1409 : lw_tbl[1409]? = some ((Jvm.Cond.methodLink "TreasureWalkLaw" (135 : Nat) ({ cls := "java/lang/StringBuilder", name := "toString", desc := "()Ljava/lang/String;" } : Jvm.MethodName))) := by decide +kernel
theorem dw_w1499 : lw_tbl[1499]? = some ((Jvm.Cond.classLink "TreasureWalkLaw" (105 : Nat) "TreasureWalkLaw$Clue")) := by decide +kernel
theorem dw_w1501 : lw_tbl[1501]? = some ((Jvm.Cond.static ({ cls := "TreasureWalkLaw", name := "randomClue", desc := "(LTreasureWalk;[ILTreasureWalkLaw$Random;I)LTreasureWalkLaw$Clue;" } : Jvm.MethodName))) := by decide +kernel
set_option maxRecDepth 100000 in
theorem dw_w1502 : lw_tbl[1502]? = some ((Jvm.Cond.code ({ cls := "TreasureWalkLaw", name := "randomClue", desc := "(LTreasureWalk;[ILTreasureWalkLaw$Random;I)LTreasureWalkLaw$Clue;" } : Jvm.MethodName) method_24_code (8 : Nat) (Option.some (Jvm.ClassFile.FieldType.object "TreasureWalkLaw$Clue")))) := rfl
theorem dw_w1503 : lw_tbl[1503]? = some ((Jvm.Cond.methodLinkNest "TreasureWalkLaw" (107 : Nat) ({ cls := "TreasureWalkLaw$Clue", name := "<init>", desc := "()V" } : Jvm.MethodName) "TreasureWalkLaw")) := by decide +kernel
theorem dw_w1505 : lw_tbl[1505]? = some ((Jvm.Cond.methodLink "TreasureWalkLaw" (118 : Nat) ({ cls := "TreasureWalkLaw", name := "with", desc := "([II)[I" } : Jvm.MethodName))) := by decide +kernel
theorem dw_w1510 : lw_tbl[1510]? = some ((Jvm.Cond.classLink "TreasureWalkLaw" (139 : Nat) "TreasureWalkLaw$Leg")) := by decide +kernel
theorem dw_w1511 : lw_tbl[1511]? = some ((Jvm.Cond.instantiable "TreasureWalkLaw$Leg" (4 : Nat))) := by decide +kernel
theorem dw_w1512 : lw_tbl[1512]? = some ((Jvm.Cond.methodLinkNest "TreasureWalkLaw" (145 : Nat) ({ cls := "TreasureWalkLaw$Leg", name := "<init>", desc := "()V" } : Jvm.MethodName) "TreasureWalkLaw")) := by decide +kernel
theorem dw_w1513 : lw_tbl[1513]? = some ((Jvm.Cond.instanceMethod ({ cls := "TreasureWalkLaw$Leg", name := "<init>", desc := "()V" } : Jvm.MethodName))) := by decide +kernel
set_option maxRecDepth 100000 in
theorem dw_w1514 : lw_tbl[1514]? = some ((Jvm.Cond.code ({ cls := "TreasureWalkLaw$Leg", name := "<init>", desc := "()V" } : Jvm.MethodName) prog_16_method_1_code (1 : Nat) (Option.none : Option Jvm.ClassFile.FieldType))) := rfl
theorem dw_w1515 : lw_tbl[1515]? = some ((Jvm.Cond.methodLink "TreasureWalkLaw$Leg" (1 : Nat) ({ cls := "java/lang/Object", name := "<init>", desc := "()V" } : Jvm.MethodName))) := by decide +kernel
theorem dw_w1517 : lw_tbl[1517]? = some ((Jvm.Cond.fieldLink "TreasureWalkLaw" (146 : Nat) "TreasureWalkLaw$Leg" "kind" "I")) := by decide +kernel
theorem dw_w1519 : lw_tbl[1519]? = some ((Jvm.Cond.fieldLink "TreasureWalkLaw" (153 : Nat) "TreasureWalkLaw$Leg" "many" "I")) := by decide +kernel
theorem dw_w1521 : lw_tbl[1521]? = some ((Jvm.Cond.fieldLink "TreasureWalkLaw" (156 : Nat) "TreasureWalkLaw$Leg" "give" "I")) := by decide +kernel
theorem dw_w1523 : lw_tbl[1523]? = some ((Jvm.Cond.fieldLink "TreasureWalkLaw" (150 : Nat) "TreasureWalkLaw$Leg" "bearing" "I")) := by decide +kernel
theorem dw_w1536 : lw_tbl[1536]? = some ((Jvm.Cond.fieldLink "TreasureWalkLaw" (169 : Nat) "TreasureWalkLaw" "BEARINGS" "[Ljava/lang/String;")) := by decide +kernel
theorem dw_zX {z : tw_Z} {cc : ByteArray} {own : String} {nL c s : Nat} (X : tw_X z cc own nL) : tw_X (tw_cz z c s) cc own nL := X
theorem dw_zA {z : tw_Z} {c s : Nat} (hA : dw_AK (tw_zB z) (tw_zS z) (tw_zs z)) : dw_AK (tw_zB (tw_cz z c s)) (tw_zS (tw_cz z c s)) (tw_zs (tw_cz z c s)) := hA
theorem dw_zb {z : tw_Z} {b c s : Nat} (h : tw_zB z ≤ b) : tw_zB (tw_cz z c s) ≤ b := h
theorem dw_zD {z : tw_Z} {c s : Nat} (h : (tw_zD z).2 = []) : (tw_zD (tw_cz z c s)).2 = [] := h
theorem dw_z0 {z : tw_Z} {c s : Nat} : tw_zcells (tw_cz z c s) = c ∧ tw_zslots (tw_cz z c s) = s := ⟨rfl, rfl⟩
theorem dw_zM {z : tw_Z} {c s MC MS : Nat} (h1 : (tw_zR z).cells = MC) (h2 : (tw_zR z).slots = MS) : (tw_zR (tw_cz z c s)).cells = MC ∧ (tw_zR (tw_cz z c s)).slots = MS := ⟨h1, h2⟩
theorem dw_zf {z : tw_Z} {c s n m : Nat} (h : (tw_zR z).frames = n) (h1 : Nat.ble m n = true) : m ≤ (tw_zR (tw_cz z c s)).frames := tw_le h h1
theorem dw_zl {z : tw_Z} {c s n m : Nat} (h : (tw_zR z).locals = n) (h1 : Nat.ble m n = true) : m ≤ (tw_zR (tw_cz z c s)).locals := tw_le h h1
def dw_P_X14_init (th : Nat) (Y : dw_S) (Q : Unit → Prop) : Prop :=
Q ()
theorem dw_y_X14_init : tw_My yX14_init cX14_init 1 none 0 := ⟨List.mem_of_getElem? dw_w1514, List.mem_of_getElem? dw_w68, by decide +kernel, by decide +kernel, by decide +kernel⟩
theorem dw_v_X14_init : Cond.instanceMethod yX14_init ∈ lw_tbl := List.mem_of_getElem? dw_w1513
set_option maxRecDepth 100000 in
set_option maxHeartbeats 4000000 in
theorem dw_m_X14_init {l : Launch} {b : Nat} {D : tw_G} {C : Nat → ClassId} {S : Nat → Nat} (hD : D.2 = []) {th : Nat} {Y : dw_S} {Q : Unit → Prop}  (h : dw_P_X14_init th Y Q) : dw_Met l b D C S yX14_init cX14_init 1 none ({ frames := 1, cells := 0, slots := 0, locals := 20 } : Room) [.ref (b + th)] Y (fun _ => none) (fun _ => Y) Q := by
  refine dw_metOf (dw_P_X14_init th Y Q) h _ _ Q (by decide +kernel) (Nat.le_of_ble_eq_true rfl) ?_
  intro z el eB eD eC eS eR X hA hnm hret hQ
  subst el eD eC eS
  have hb : tw_zB z ≤ b := Nat.le_of_eq eB
  have hA : dw_AK (tw_zB z) (tw_zS z) (tw_zs z) := by rw [eB]; exact hA
  have hfr : (tw_zR z).frames = 1 := by rw [eR]
  have hlo : (tw_zR z).locals = 20 := by rw [eR]
  have eMC : (tw_zR z).cells = 0 := by rw [eR]
  have eMS : (tw_zR z).slots = 0 := by rw [eR]
  have X : tw_X z cX14_init "TreasureWalkLaw$Leg" 1 := X
  show dw_Rf (tw_cz z 0 0) b _ Y 0 [(0, .ref (b + th))] []
  unfold dw_P_X14_init
  refine e_aload_n (z := tw_cz z 0 0) (dw_zX X) dX14_init_0 rfl 0 rfl ?_
  refine e_obj (z := tw_cz z 0 0) (dw_zX X) dX14_init_1 _ dw_w1515 (List.mem_of_getElem? dw_w76) (List.mem_of_getElem? dw_w77) (tw_le hfr rfl) (tw_le hlo rfl) (Nat.le_of_ble_eq_true rfl) ?_
  exact dw_ckp (by exact ⟨Nat.le_of_ble_eq_true rfl, Nat.le_of_ble_eq_true rfl⟩) (e_vret (z := z) X eB dX14_init_4 hret ⟨eMC, eMS⟩ hQ rfl rfl)
def dw_P_L_randomClue (n : Nat) (r1 : Nat) (r2 : Nat) (x3 : Int32) (Y : dw_S) (Q : Nat × dw_S → Prop) : Prop :=
pw_al (dw_n Y) (fun (q21 : Nat) => pw_lt (dw_nw Y q21 12 0 (fun _ => 0) (fun _ => none)) (fun (Y22 : dw_S) =>
dw_P_X12_init q21 Y22 (fun (r23 : dw_S) =>
dw_P_L_write n r1 22 r23 (fun (r24 : dw_S) =>
pw_ck (dw_is r24 r2 15) (
dw_P_X15_below r2 x3 r24 (fun (r25 : Int32 × dw_S) =>
pw_lt r25.1 (fun (v26 : Int32) =>
pw_lt (0 : Int32) (fun (v27 : Int32) =>
pw_lp (fun (k29 : (Int32 × dw_S × Nat × Nat) → Prop) (a28 : Int32 × dw_S × Nat × Nat) =>
pw_ck (dw_is a28.2.1 r2 15 ∧ a28.2.2.1 ≤ 60 ∧ a28.2.2.2 ≤ 500) (
dw_P_X15_below r2 (2 : Int32) a28.2.1 (fun (r30 : Int32 × dw_S) =>
tw_jn (fun (a31 : Unit) =>
pw_ck (dw_is r30.2 r2 15 ∧ a28.2.2.1 ≤ 60 ∧ a28.2.2.2 ≤ 500) (
dw_P_X15_below r2 (4 : Int32) r30.2 (fun (r33 : Int32 × dw_S) =>
pw_ck ((¬ r33.1 < 0 ∧ (Int32.toNatClampNeg r33.1) ≤ 10000) ∧ (a28.2.2.1 + 1) ≤ 60 ∧ (a28.2.2.2 + (Int32.toNatClampNeg r33.1)) ≤ 500) (
pw_al (dw_n r33.2) (fun (q34 : Nat) => pw_lt (dw_nw r33.2 q34 23 (Int32.toNatClampNeg r33.1) (fun _ => 0) (fun _ => none)) (fun (Y35 : dw_S) =>
pw_ck (dw_is Y35 q21 12) (pw_lt (dw_pr Y35 q21 1 (some q34)) (fun (Y36 : dw_S) =>
pw_lt (0 : Int32) (fun (v37 : Int32) =>
pw_lp (fun (k39 : (Int32 × dw_S × Nat × Nat) → Prop) (a38 : Int32 × dw_S × Nat × Nat) =>
pw_ck (dw_is a38.2.1 q21 12) (
pw_nn (dw_r a38.2.1 q21 1) (fun (r40 : Nat) =>
pw_ck (dw_is a38.2.1 r40 23) (
if (Int32.ofNat (dw_l a38.2.1 r40)) ≤ a38.1 then (pw_ck (a38.2.2.1 ≤ 60 ∧ a38.2.2.2 ≤ 500) (
dw_P_L_write n r1 29 a38.2.1 (fun (r41 : dw_S) =>
pw_ck (a38.2.2.1 ≤ 60 ∧ a38.2.2.2 ≤ 500) (Q (q21, r41)))))
else (pw_ck ((a38.2.2.1 + 1) ≤ 60 ∧ (a38.2.2.2 + 4) ≤ 500) (
pw_al (dw_n a38.2.1) (fun (q42 : Nat) => pw_lt (dw_nw a38.2.1 q42 14 0 (fun _ => 0) (fun _ => none)) (fun (Y43 : dw_S) =>
pw_ck ((a38.2.2.1 + 1) ≤ 60 ∧ (a38.2.2.2 + 4) ≤ 500) (
dw_P_X14_init q42 Y43 (fun (r44 : Unit) =>
pw_ck (dw_is Y43 r2 15 ∧ (a38.2.2.1 + 1) ≤ 60 ∧ (a38.2.2.2 + 4) ≤ 500) (
dw_P_X15_below r2 (3 : Int32) Y43 (fun (r45 : Int32 × dw_S) =>
tw_jn (fun (a46 : Int32 × dw_S) =>
pw_ck (dw_is a46.2 q42 14) (pw_lt (dw_pi a46.2 q42 0 a46.1) (fun (Y48 : dw_S) =>
pw_ck (dw_is Y48 r2 15 ∧ (a38.2.2.1 + 1) ≤ 60 ∧ (a38.2.2.2 + 4) ≤ 500) (
dw_P_X15_below r2 (8 : Int32) Y48 (fun (r49 : Int32 × dw_S) =>
pw_ck (dw_is r49.2 q42 14) (pw_lt (dw_pi r49.2 q42 3 r49.1) (fun (Y50 : dw_S) =>
pw_ck (dw_is Y50 q42 14) (
tw_jn (fun (a51 : Int32 × dw_S) =>
pw_ck (dw_is a51.2 q42 14) (pw_lt (dw_pi a51.2 q42 1 a51.1) (fun (Y53 : dw_S) =>
pw_ck (dw_is Y53 q42 14) (
tw_jn (fun (a54 : Int32 × dw_S) =>
pw_ck (dw_is a54.2 q42 14) (pw_lt (dw_pi a54.2 q42 2 a54.1) (fun (Y56 : dw_S) =>
pw_ck (dw_is Y56 q42 14) (
tw_jn (fun (a57 : dw_S × Nat × Nat) =>
pw_ck (dw_is a57.1 q42 14) (
tw_jn (fun (a59 : dw_S × Nat × Nat) =>
pw_ck (dw_is a59.1 q42 14) (
tw_jn (fun (a61 : dw_S) =>
pw_ck ((a59.2.1 + 1) ≤ 60 ∧ (a59.2.2 + 4) ≤ 500) (
pw_al (dw_n a61) (fun (q63 : Nat) => pw_lt (dw_nw a61 q63 17 0 (fun _ => 0) (fun _ => none)) (fun (Y64 : dw_S) =>
pw_ck (((a59.2.1 + 1) + 1) ≤ 60 ∧ ((a59.2.2 + 4) + 16) ≤ 500) (
dw_P_J4_init_da8c8 q63 Y64 (fun (r65 : dw_S) =>
pw_ck (dw_is r65 q63 17 ∧ ((a59.2.1 + 1) + 1) ≤ 60 ∧ ((a59.2.2 + 4) + 16) ≤ 500) (
dw_P_J4_append_15ec4 q63 21 r65 (fun (r66 : Nat × dw_S) =>
pw_ck (dw_is r66.2 q42 14) (
pw_ck (tw_ok (dw_i r66.2 q42 3) 8 = true) (
pw_ck ((13 + Int32.toNatClampNeg (dw_i r66.2 q42 3)) < 33) (
pw_ck (dw_is r66.2 r66.1 17 ∧ ((a59.2.1 + 1) + 1) ≤ 60 ∧ ((a59.2.2 + 4) + 16) ≤ 500) (
dw_P_J4_append_15ec4 r66.1 (13 + Int32.toNatClampNeg (dw_i r66.2 q42 3)) r66.2 (fun (r68 : Nat × dw_S) =>
pw_ck (dw_is r68.2 r68.1 17 ∧ (((a59.2.1 + 1) + 1) + 2) ≤ 60 ∧ (((a59.2.2 + 4) + 16) + 36) ≤ 500) (
dw_P_J4_toString_0e30d r68.1 r68.2 (fun (r69 : Nat × dw_S) =>
pw_ck ((((a59.2.1 + 1) + 1) + 2) ≤ 60 ∧ (((a59.2.2 + 4) + 16) + 36) ≤ 500) (
dw_P_L_writed n r1 r69.1 r69.2 (fun (r70 : dw_S) =>
pw_ck (dw_is r70 q42 14) (
tw_jn (fun (a71 : dw_S × Nat × Nat) =>
pw_ck (dw_is a71.1 q21 12) (
pw_nn (dw_r a71.1 q21 1) (fun (r73 : Nat) =>
pw_ck (dw_is a71.1 r73 23 ∧ tw_ok a38.1 (dw_l a71.1 r73) = true ∧ ∀ v, (some q42) = some v → dw_is a71.1 v 14) (pw_lt (dw_pr a71.1 r73 (Int32.toNatClampNeg a38.1) (some q42)) (fun (Y74 : dw_S) =>
pw_lt (a38.1 + (1 : Int32)) (fun (v75 : Int32) =>
k39 (v75, Y74, a71.2.1, a71.2.2))))))) (fun (j72 : (dw_S × Nat × Nat) → Prop) =>
if (dw_i r70 q42 2) ≤ 0 then (j72 (r70, (((a59.2.1 + 1) + 1) + 2), (((a59.2.2 + 4) + 16) + 36)))
else (pw_ck ((¬ (1 : Int32) < 0 ∧ (Int32.toNatClampNeg (1 : Int32)) ≤ 10000) ∧ ((((a59.2.1 + 1) + 1) + 2) + 1) ≤ 60 ∧ ((((a59.2.2 + 4) + 16) + 36) + (Int32.toNatClampNeg (1 : Int32))) ≤ 500) (
pw_al (dw_n r70) (fun (q76 : Nat) => pw_lt (dw_nw r70 q76 20 (Int32.toNatClampNeg (1 : Int32)) (fun _ => 0) (fun _ => none)) (fun (Y77 : dw_S) =>
pw_ck (dw_is Y77 q42 14) (
pw_ck (dw_is Y77 q76 20 ∧ tw_ok (0 : Int32) (dw_l Y77 q76) = true) (pw_lt (dw_pi Y77 q76 (Int32.toNatClampNeg (0 : Int32)) (dw_i Y77 q42 2)) (fun (Y78 : dw_S) =>
pw_ck (((((a59.2.1 + 1) + 1) + 2) + 1) ≤ 60 ∧ ((((a59.2.2 + 4) + 16) + 36) + (Int32.toNatClampNeg (1 : Int32))) ≤ 500) (
dw_P_L_writeAll n r1 28 q76 Y78 (fun (r79 : dw_S) =>
j72 (r79, ((((a59.2.1 + 1) + 1) + 2) + 1), ((((a59.2.2 + 4) + 16) + 36) + (Int32.toNatClampNeg (1 : Int32)))))))))))))))))))))))))))))))) (fun (j62 : (dw_S) → Prop) =>
if ¬ (dw_i a59.1 q42 0) = (2 : Int32) then (j62 a59.1)
else (pw_ck (a59.2.1 ≤ 60 ∧ a59.2.2 ≤ 500) (
dw_P_L_write n r1 27 a59.1 (fun (r80 : dw_S) =>
j62 r80)))))) (fun (j60 : (dw_S × Nat × Nat) → Prop) =>
if ¬ (dw_i a57.1 q42 0) = (1 : Int32) then (j60 (a57.1, a57.2.1, a57.2.2))
else (pw_ck ((a57.2.1 + 1) ≤ 60 ∧ (a57.2.2 + 4) ≤ 500) (
pw_al (dw_n a57.1) (fun (q81 : Nat) => pw_lt (dw_nw a57.1 q81 17 0 (fun _ => 0) (fun _ => none)) (fun (Y82 : dw_S) =>
pw_ck (((a57.2.1 + 1) + 1) ≤ 60 ∧ ((a57.2.2 + 4) + 16) ≤ 500) (
dw_P_J4_init_da8c8 q81 Y82 (fun (r83 : dw_S) =>
pw_ck (dw_is r83 q81 17 ∧ ((a57.2.1 + 1) + 1) ≤ 60 ∧ ((a57.2.2 + 4) + 16) ≤ 500) (
dw_P_J4_append_15ec4 q81 26 r83 (fun (r84 : Nat × dw_S) =>
pw_ck (dw_is r84.2 q42 14) (
pw_ck (dw_is r84.2 r84.1 17 ∧ ((a57.2.1 + 1) + 1) ≤ 60 ∧ ((a57.2.2 + 4) + 16) ≤ 500) (
dw_P_J4_append_cf468 r84.1 ((Int32.toUInt32 ((97 : Int32) + (dw_i r84.2 q42 1)) % 65536).toInt32) r84.2 (fun (r85 : Nat × dw_S) =>
pw_ck (dw_is r85.2 r85.1 17 ∧ (((a57.2.1 + 1) + 1) + 2) ≤ 60 ∧ (((a57.2.2 + 4) + 16) + 36) ≤ 500) (
dw_P_J4_toString_0e30d r85.1 r85.2 (fun (r86 : Nat × dw_S) =>
pw_ck ((((a57.2.1 + 1) + 1) + 2) ≤ 60 ∧ (((a57.2.2 + 4) + 16) + 36) ≤ 500) (
dw_P_L_writed n r1 r86.1 r86.2 (fun (r87 : dw_S) =>
j60 (r87, (((a57.2.1 + 1) + 1) + 2), (((a57.2.2 + 4) + 16) + 36)))))))))))))))))))) (fun (j58 : (dw_S × Nat × Nat) → Prop) =>
if ¬ (dw_i Y56 q42 0) = 0 then (j58 (Y56, (a38.2.2.1 + 1), (a38.2.2.2 + 4)))
else (pw_ck ((¬ (1 : Int32) < 0 ∧ (Int32.toNatClampNeg (1 : Int32)) ≤ 10000) ∧ ((a38.2.2.1 + 1) + 1) ≤ 60 ∧ ((a38.2.2.2 + 4) + (Int32.toNatClampNeg (1 : Int32))) ≤ 500) (
pw_al (dw_n Y56) (fun (q88 : Nat) => pw_lt (dw_nw Y56 q88 20 (Int32.toNatClampNeg (1 : Int32)) (fun _ => 0) (fun _ => none)) (fun (Y89 : dw_S) =>
pw_ck (dw_is Y89 q42 14) (
pw_ck (dw_is Y89 q88 20 ∧ tw_ok (0 : Int32) (dw_l Y89 q88) = true) (pw_lt (dw_pi Y89 q88 (Int32.toNatClampNeg (0 : Int32)) (dw_i Y89 q42 1)) (fun (Y90 : dw_S) =>
pw_ck (((a38.2.2.1 + 1) + 1) ≤ 60 ∧ ((a38.2.2.2 + 4) + (Int32.toNatClampNeg (1 : Int32))) ≤ 500) (
dw_P_L_writeAll n r1 25 q88 Y90 (fun (r91 : dw_S) =>
j58 (r91, ((a38.2.2.1 + 1) + 1), ((a38.2.2.2 + 4) + (Int32.toNatClampNeg (1 : Int32)))))))))))))))))) (fun (j55 : (Int32 × dw_S) → Prop) =>
if ¬ (dw_i Y53 q42 0) = 0 then (j55 ((0 : Int32), Y53))
else (pw_ck (dw_is Y53 r2 15 ∧ (a38.2.2.1 + 1) ≤ 60 ∧ (a38.2.2.2 + 4) ≤ 500) (
dw_P_X15_below r2 (3 : Int32) Y53 (fun (r92 : Int32 × dw_S) =>
j55 (r92.1, r92.2))))))))) (fun (j52 : (Int32 × dw_S) → Prop) =>
if ¬ (dw_i Y50 q42 0) = 0 then (pw_ck (dw_is Y50 q42 14) (
if ¬ (dw_i Y50 q42 0) = (1 : Int32) then (j52 ((0 : Int32), Y50))
else (pw_ck (dw_is Y50 r2 15 ∧ (a38.2.2.1 + 1) ≤ 60 ∧ (a38.2.2.2 + 4) ≤ 500) (
dw_P_X15_below r2 x3 Y50 (fun (r93 : Int32 × dw_S) =>
j52 (r93.1, r93.2))))))
else (pw_ck (dw_is Y50 r2 15 ∧ (a38.2.2.1 + 1) ≤ 60 ∧ (a38.2.2.2 + 4) ≤ 500) (
dw_P_X15_below r2 (5 : Int32) Y50 (fun (r94 : Int32 × dw_S) =>
j52 (r94.1, r94.2))))))))))))) (fun (j47 : (Int32 × dw_S) → Prop) =>
if ¬ r45.1 = 0 then (j47 ((0 : Int32), r45.2))
else (pw_ck (dw_is r45.2 r2 15 ∧ (a38.2.2.1 + 1) ≤ 60 ∧ (a38.2.2.2 + 4) ≤ 500) (
dw_P_X15_below r2 (2 : Int32) r45.2 (fun (r95 : Int32 × dw_S) =>
j47 (((1 : Int32) + r95.1), r95.2))))))))))))))))) n (v37, Y36, (a28.2.2.1 + 1), (a28.2.2.2 + (Int32.toNatClampNeg r33.1)))))))))))) (fun (j32 : (Unit) → Prop) =>
if ((1 : Int32) + r30.1) ≤ a28.1 then (j32 ())
else (if x3 ≤ a28.1 then (j32 ())
else (pw_ck (¬ x3 = 0) (
pw_lt ((v26 + a28.1) - (v26 + a28.1) / x3 * x3) (fun (v96 : Int32) =>
pw_ck (dw_is r30.2 q21 12) (
pw_nn (dw_r r30.2 q21 0) (fun (r97 : Nat) =>
pw_ck ((a28.2.2.1 + 1) ≤ 60 ∧ (a28.2.2.2 + 8) ≤ 500) (
dw_P_L_with n r97 v96 r30.2 (fun (r98 : Nat × dw_S) =>
pw_ck (dw_is r98.2 q21 12) (pw_lt (dw_pr r98.2 q21 0 (some r98.1)) (fun (Y99 : dw_S) =>
tw_jn (fun (a100 : dw_S) =>
pw_ck (((a28.2.2.1 + 1) + 1) ≤ 60 ∧ ((a28.2.2.2 + 8) + 4) ≤ 500) (
pw_al (dw_n a100) (fun (q102 : Nat) => pw_lt (dw_nw a100 q102 17 0 (fun _ => 0) (fun _ => none)) (fun (Y103 : dw_S) =>
pw_ck ((((a28.2.2.1 + 1) + 1) + 1) ≤ 60 ∧ (((a28.2.2.2 + 8) + 4) + 16) ≤ 500) (
dw_P_J4_init_da8c8 q102 Y103 (fun (r104 : dw_S) =>
pw_ck (dw_is r104 q102 17 ∧ (((a28.2.2.1 + 1) + 1) + 1) ≤ 60 ∧ (((a28.2.2.2 + 8) + 4) + 16) ≤ 500) (
dw_P_J4_append_15ec4 q102 24 r104 (fun (r105 : Nat × dw_S) =>
pw_ck (dw_is r105.2 r105.1 17 ∧ (((a28.2.2.1 + 1) + 1) + 1) ≤ 60 ∧ (((a28.2.2.2 + 8) + 4) + 16) ≤ 500) (
dw_P_J4_append_cf468 r105.1 ((Int32.toUInt32 ((97 : Int32) + v96) % 65536).toInt32) r105.2 (fun (r106 : Nat × dw_S) =>
pw_ck (dw_is r106.2 r106.1 17 ∧ ((((a28.2.2.1 + 1) + 1) + 1) + 2) ≤ 60 ∧ ((((a28.2.2.2 + 8) + 4) + 16) + 36) ≤ 500) (
dw_P_J4_toString_0e30d r106.1 r106.2 (fun (r107 : Nat × dw_S) =>
pw_ck (((((a28.2.2.1 + 1) + 1) + 1) + 2) ≤ 60 ∧ ((((a28.2.2.2 + 8) + 4) + 16) + 36) ≤ 500) (
dw_P_L_writed n r1 r107.1 r107.2 (fun (r108 : dw_S) =>
pw_lt (a28.1 + (1 : Int32)) (fun (v109 : Int32) =>
k29 (v109, r108, ((((a28.2.2.1 + 1) + 1) + 1) + 2), ((((a28.2.2.2 + 8) + 4) + 16) + 36))))))))))))))))) (fun (j101 : (dw_S) → Prop) =>
if a28.1 ≤ 0 then (j101 Y99)
else (pw_ck ((a28.2.2.1 + 1) ≤ 60 ∧ (a28.2.2.2 + 8) ≤ 500) (
dw_P_L_write n r1 23 Y99 (fun (r110 : dw_S) =>
j101 r110)))))))))))))))))) n (v27, r25.2, 3, 3)))))))))
theorem dw_y_L_randomClue : tw_My yL_randomClue cL_randomClue 8 (some (.object "TreasureWalkLaw$Clue")) 4 := ⟨List.mem_of_getElem? dw_w1502, List.mem_of_getElem? dw_w35, by decide +kernel, by decide +kernel, by decide +kernel⟩
theorem dw_v_L_randomClue : tw_Ms yL_randomClue := List.mem_of_getElem? dw_w1501
set_option maxRecDepth 100000 in
set_option maxHeartbeats 40000000 in
theorem dw_m_L_randomClue {l : Launch} {b : Nat} {D : tw_G} {C : Nat → ClassId} {S : Nat → Nat} (hD : D.2 = []) {n : Nat} {r1 : Nat} {r2 : Nat} {x3 : Int32} {Y : dw_S} {Q : Nat × dw_S → Prop}  (h : dw_P_L_randomClue n r1 r2 x3 Y Q) : dw_Met l b D C S yL_randomClue cL_randomClue 8 (some (.object "TreasureWalkLaw$Clue")) ({ frames := 10, cells := 60, slots := 500, locals := 206 } : Room) [.ref (b + 0), .ref (b + r1), .ref (b + r2), .int x3] Y (fun r => some (.ref (b + r.1))) (fun r => r.2) Q := by
  refine dw_metOf (dw_P_L_randomClue n r1 r2 x3 Y Q) h _ _ Q (by decide +kernel) (Nat.le_of_ble_eq_true rfl) ?_
  intro z el eB eD eC eS eR X hA hnm hret hQ
  subst el eD eC eS
  have hb : tw_zB z ≤ b := Nat.le_of_eq eB
  have hA : dw_AK (tw_zB z) (tw_zS z) (tw_zs z) := by rw [eB]; exact hA
  have hfr : (tw_zR z).frames = 10 := by rw [eR]
  have hlo : (tw_zR z).locals = 206 := by rw [eR]
  have eMC : (tw_zR z).cells = 60 := by rw [eR]
  have eMS : (tw_zR z).slots = 500 := by rw [eR]
  have X : tw_X z cL_randomClue "TreasureWalkLaw" 8 := X
  show dw_Rf (tw_cz z 0 0) b _ Y 0 [(0, .ref (b + 0)), (1, .ref (b + r1)), (2, .ref (b + r2)), (3, .int x3)] []
  unfold dw_P_L_randomClue
  refine dw_ckp (by exact ⟨Nat.le_of_ble_eq_true rfl, Nat.le_of_ble_eq_true rfl⟩) (e_new (ci := 12) (T := TX12) (N := 3) (c := 0) (s := 0) (z := tw_cz z 0 0) (dw_zX X) dw_z0 (dw_zM eMC eMS) dL_randomClue_0 _ dw_w1499 (List.mem_of_getElem? dw_w659) (List.mem_of_getElem? dw_w67) dw_in12 tyX12 tyX12_ok rfl dw_df12 (by decide) (fun a => dw_fr12) (fun q21 Y22 => ?_))
  show dw_Rf (tw_cz z 1 3) b _ Y22 _ [(0, .ref (b + 0)), (1, .ref (b + r1)), (2, .ref (b + r2)), (3, .int x3)] [.ref (b + q21)]
  refine e_dup (z := tw_cz z 1 3) (dw_zX X) dL_randomClue_3 rfl ?_
  refine dw_ckp (by exact ⟨Nat.le_of_ble_eq_true rfl, Nat.le_of_ble_eq_true rfl⟩) (e_callIN (c := 1) (s := 3) (As := []) (z := tw_cz z 1 3) (dw_zX X) (dw_zA hA) (dw_zb hb) (dw_zD hD) dw_z0 (dw_zM eMC eMS) dL_randomClue_4 (fun Q h => dw_m_X12_init (dw_zD hD) h) dw_y_X12_init dw_v_X12_init rfl _ dw_w1503 rfl ⟨dw_zf hfr rfl, dw_zl hlo rfl⟩ (Nat.le_of_ble_eq_true rfl) rfl (fun r23 => ?_))
  show dw_Rf (tw_cz z 3 3) b _ r23 _ [(0, .ref (b + 0)), (1, .ref (b + r1)), (2, .ref (b + r2)), (3, .int x3)] [.ref (b + q21)]
  refine e_astore (z := tw_cz z 3 3) (dw_zX X) dL_randomClue_7 (by decide) (L' := [(4, .ref (b + q21)), (0, .ref (b + 0)), (1, .ref (b + r1)), (2, .ref (b + r2)), (3, .int x3)]) rfl ?_
  refine e_aload_n (z := tw_cz z 3 3) (dw_zX X) dL_randomClue_9 rfl 1 rfl ?_
  refine e_aload_n (z := tw_cz z 3 3) (dw_zX X) dL_randomClue_10 rfl 2 rfl ?_
  refine e_ldcS (z := tw_cz z 3 3) (dw_zX X) dL_randomClue_11 (j := 22) tw_l_W_108 ?_
  refine dw_ckp (by exact ⟨Nat.le_of_ble_eq_true rfl, Nat.le_of_ble_eq_true rfl⟩) (e_callS (c := 3) (s := 3) (As := [.ref (b + 0), .ref (b + r1), .ref (tw_zS z 22)]) (z := tw_cz z 3 3) (dw_zX X) (dw_zA hA) (dw_zb hb) (dw_zD hD) dw_z0 (dw_zM eMC eMS) dL_randomClue_13 (fun Q h => dw_m_L_write (dw_zD hD) (by decide) h) dw_y_L_write dw_v_L_write _ dw_w1242 rfl ⟨dw_zf hfr rfl, dw_zl hlo rfl⟩ (Nat.le_of_ble_eq_true rfl) rfl (fun r24 => ?_))
  show dw_Rf (tw_cz z 3 3) b _ r24 _ [(4, .ref (b + q21)), (0, .ref (b + 0)), (1, .ref (b + r1)), (2, .ref (b + r2)), (3, .int x3)] []
  refine e_aload_n (z := tw_cz z 3 3) (dw_zX X) dL_randomClue_16 rfl 3 rfl ?_
  refine e_iload_n (z := tw_cz z 3 3) (dw_zX X) dL_randomClue_17 rfl 4 rfl ?_
  refine dw_ckq (by exact ⟨Nat.le_of_ble_eq_true rfl, Nat.le_of_ble_eq_true rfl⟩) (e_callV (k := r2) (ci := 15) (Cn := "TreasureWalkLaw$Random") (T := TX15) (N := 1) (c := 3) (s := 3) (As := [.int x3]) (z := tw_cz z 3 3) (dw_zX X) (dw_zA hA) (dw_zb hb) (dw_zD hD) dw_z0 (dw_zM eMC eMS) dL_randomClue_18 (fun Q h => dw_m_X15_below (dw_zD hD) h) dw_y_X15_below dw_v_X15_below _ dw_w743 (by decide) rfl (fun h => dw_E15 h) rfl ⟨dw_zf hfr rfl, dw_zl hlo rfl⟩ (Nat.le_of_ble_eq_true rfl) rfl (fun r25 => ?_))
  show dw_Rf (tw_cz z 3 3) b _ r25.2 _ [(4, .ref (b + q21)), (0, .ref (b + 0)), (1, .ref (b + r1)), (2, .ref (b + r2)), (3, .int x3)] [.int r25.1]
  refine e_istore (z := tw_cz z 3 3) (dw_zX X) dL_randomClue_21 (by decide) (LL := fun v26 => [(5, .int v26), (4, .ref (b + q21)), (0, .ref (b + 0)), (1, .ref (b + r1)), (2, .ref (b + r2)), (3, .int x3)]) (fun _ => rfl) (fun v26 => ?_)
  refine e_iconst (z := tw_cz z 3 3) (dw_zX X) dL_randomClue_23 (v := (0 : Int32)) (by decide) ?_
  refine e_istore (z := tw_cz z 3 3) (dw_zX X) dL_randomClue_24 (by decide) (LL := fun v27 => [(6, .int v27), (5, .int v26), (4, .ref (b + q21)), (0, .ref (b + 0)), (1, .ref (b + r1)), (2, .ref (b + r2)), (3, .int x3)]) (fun _ => rfl) (fun v27 => ?_)
  refine e_lp (α := Int32 × dw_S × Nat × Nat) (zJ := fun a28 => tw_cz z a28.2.2.1 a28.2.2.2) (YJ := fun a28 => a28.2.1) (pcJ := 26) (LJ := fun a28 => [(6, .int a28.1), (5, .int v26), (4, .ref (b + q21)), (0, .ref (b + 0)), (1, .ref (b + r1)), (2, .ref (b + r2)), (3, .int x3)]) (stJ := fun a28 => []) (fun k29 hk29 a28 => ?_) n (v27, r25.2, 3, 3)
  refine e_iload (z := tw_cz z a28.2.2.1 a28.2.2.2) (dw_zX X) dL_randomClue_26 0 rfl ?_
  refine e_iconst (z := tw_cz z a28.2.2.1 a28.2.2.2) (dw_zX X) dL_randomClue_28 (v := (1 : Int32)) (by decide) ?_
  refine e_aload_n (z := tw_cz z a28.2.2.1 a28.2.2.2) (dw_zX X) dL_randomClue_29 rfl 5 rfl ?_
  refine e_iconst (z := tw_cz z a28.2.2.1 a28.2.2.2) (dw_zX X) dL_randomClue_30 (v := (2 : Int32)) (by decide) ?_
  refine e_callV (k := r2) (ci := 15) (Cn := "TreasureWalkLaw$Random") (T := TX15) (N := 1) (c := a28.2.2.1) (s := a28.2.2.2) (As := [.int (2 : Int32)]) (z := tw_cz z a28.2.2.1 a28.2.2.2) (dw_zX X) (dw_zA hA) (dw_zb hb) (dw_zD hD) dw_z0 (dw_zM eMC eMS) dL_randomClue_31 (fun Q h => dw_m_X15_below (dw_zD hD) h) dw_y_X15_below dw_v_X15_below _ dw_w743 (by decide) rfl (fun h => dw_E15 h) rfl ⟨dw_zf hfr rfl, dw_zl hlo rfl⟩ (Nat.le_of_ble_eq_true rfl) rfl (fun r30 => ?_)
  show dw_Rf (tw_cz z a28.2.2.1 a28.2.2.2) b _ r30.2 _ [(6, .int a28.1), (5, .int v26), (4, .ref (b + q21)), (0, .ref (b + 0)), (1, .ref (b + r1)), (2, .ref (b + r2)), (3, .int x3)] [.int r30.1, .int (1 : Int32), .int a28.1]
  refine e_iadd (z := tw_cz z a28.2.2.1 a28.2.2.2) (dw_zX X) dL_randomClue_34 ?_
  refine e_jn (α := Unit) (zJ := fun a31 => tw_cz z a28.2.2.1 a28.2.2.2) (YJ := fun a31 => r30.2) (pcJ := 115) (LJ := fun a31 => [(4, .ref (b + q21)), (0, .ref (b + 0)), (1, .ref (b + r1)), (2, .ref (b + r2)), (3, .int x3)]) (stJ := fun a31 => []) (fun a31 => ?_) (fun j32 hj32 => ?_)
  ·
    refine e_aload (z := tw_cz z a28.2.2.1 a28.2.2.2) (dw_zX X) dL_randomClue_115 0 rfl ?_
    refine e_aload_n (z := tw_cz z a28.2.2.1 a28.2.2.2) (dw_zX X) dL_randomClue_117 rfl 3 rfl ?_
    refine e_iconst (z := tw_cz z a28.2.2.1 a28.2.2.2) (dw_zX X) dL_randomClue_118 (v := (4 : Int32)) (by decide) ?_
    refine e_callV (k := r2) (ci := 15) (Cn := "TreasureWalkLaw$Random") (T := TX15) (N := 1) (c := a28.2.2.1) (s := a28.2.2.2) (As := [.int (4 : Int32)]) (z := tw_cz z a28.2.2.1 a28.2.2.2) (dw_zX X) (dw_zA hA) (dw_zb hb) (dw_zD hD) dw_z0 (dw_zM eMC eMS) dL_randomClue_119 (fun Q h => dw_m_X15_below (dw_zD hD) h) dw_y_X15_below dw_v_X15_below _ dw_w743 (by decide) rfl (fun h => dw_E15 h) rfl ⟨dw_zf hfr rfl, dw_zl hlo rfl⟩ (Nat.le_of_ble_eq_true rfl) rfl (fun r33 => ?_)
    show dw_Rf (tw_cz z a28.2.2.1 a28.2.2.2) b _ r33.2 _ [(4, .ref (b + q21)), (0, .ref (b + 0)), (1, .ref (b + r1)), (2, .ref (b + r2)), (3, .int x3)] [.int r33.1, .ref (b + q21)]
    refine e_newq (t0 := 6) (kd := 23) (c := a28.2.2.1) (s := a28.2.2.2) (z := tw_cz z a28.2.2.1 a28.2.2.2) (dw_zX X) dw_z0 (dw_zM eMC eMS) dL_randomClue_122 _ dw_w1510 hA.2.1.1 rfl (by decide) (fun Y k h => dw_E23 h) (fun q34 Y35 => ?_)
    show dw_Rf (tw_cz z (a28.2.2.1 + 1) (a28.2.2.2 + (Int32.toNatClampNeg r33.1))) b _ Y35 _ [(4, .ref (b + q21)), (0, .ref (b + 0)), (1, .ref (b + r1)), (2, .ref (b + r2)), (3, .int x3)] [.ref (b + q34), .ref (b + q21)]
    show dw_Rf (tw_cz z (a28.2.2.1 + 1) (a28.2.2.2 + (Int32.toNatClampNeg r33.1))) b _ Y35 _ [(4, .ref (b + q21)), (0, .ref (b + 0)), (1, .ref (b + r1)), (2, .ref (b + r2)), (3, .int x3)] (dw_v b (some q34) :: .ref (b + q21) :: [])
    refine e_put (ci := 12) (T := TX12) (f := 1) (ty := .array (.object "TreasureWalkLaw$Leg")) (k := q21) (z := tw_cz z (a28.2.2.1 + 1) (a28.2.2.2 + (Int32.toNatClampNeg r33.1))) (dw_zX X) (dw_zb hb) dL_randomClue_125 (Or.inl ⟨_, dw_w671⟩) dw_in12 tyX12 tyX12_ok nmX12 rfl (by decide) rfl (by decide +kernel) dw_narrow dw_fitsA (by decide) (fun h => dw_F12 h) (Nat.le_of_ble_eq_true rfl) (fun h => dw_p12_1 h) rfl rfl rfl (fun a ha => dw_E_pr ha) (fun Y36 => ?_)
    refine e_iconst (z := tw_cz z (a28.2.2.1 + 1) (a28.2.2.2 + (Int32.toNatClampNeg r33.1))) (dw_zX X) dL_randomClue_128 (v := (0 : Int32)) (by decide) ?_
    refine e_istore (z := tw_cz z (a28.2.2.1 + 1) (a28.2.2.2 + (Int32.toNatClampNeg r33.1))) (dw_zX X) dL_randomClue_129 (by decide) (LL := fun v37 => [(6, .int v37), (4, .ref (b + q21)), (0, .ref (b + 0)), (1, .ref (b + r1)), (2, .ref (b + r2)), (3, .int x3)]) (fun _ => rfl) (fun v37 => ?_)
    refine e_lp (α := Int32 × dw_S × Nat × Nat) (zJ := fun a38 => tw_cz z a38.2.2.1 a38.2.2.2) (YJ := fun a38 => a38.2.1) (pcJ := 131) (LJ := fun a38 => [(6, .int a38.1), (4, .ref (b + q21)), (0, .ref (b + 0)), (1, .ref (b + r1)), (2, .ref (b + r2)), (3, .int x3)]) (stJ := fun a38 => []) (fun k39 hk39 a38 => ?_) n (v37, Y36, (a28.2.2.1 + 1), (a28.2.2.2 + (Int32.toNatClampNeg r33.1)))
    refine e_iload (z := tw_cz z a38.2.2.1 a38.2.2.2) (dw_zX X) dL_randomClue_131 0 rfl ?_
    refine e_aload (z := tw_cz z a38.2.2.1 a38.2.2.2) (dw_zX X) dL_randomClue_133 1 rfl ?_
    refine e_getf (ci := 12) (T := TX12) (f := 1) (k := q21) (z := tw_cz z a38.2.2.1 a38.2.2.2) (dw_zX X) dL_randomClue_135 (Or.inl ⟨_, dw_w671⟩) dw_in12 rfl (by decide) (by decide) (fun h => dw_E12 h) rfl ?_
    refine e_nn (r := (dw_r a38.2.1 q21 1)) (LL := fun _ => [(6, .int a38.1), (4, .ref (b + q21)), (0, .ref (b + 0)), (1, .ref (b + r1)), (2, .ref (b + r2)), (3, .int x3)]) (SS := fun q => dw_v b q :: [.int a38.1]) (fun r40 => ?_)
    show dw_Rf (tw_cz z a38.2.2.1 a38.2.2.2) b _ a38.2.1 _ [(6, .int a38.1), (4, .ref (b + q21)), (0, .ref (b + 0)), (1, .ref (b + r1)), (2, .ref (b + r2)), (3, .int x3)] [.ref (b + r40), .int a38.1]
    refine e_alen (k := r40) (kd := 23) (a := 6) (ty := .object "TreasureWalkLaw$Leg") (x := (0, .inr (.inr (.inr (.inr (fun j => Option.map (fun a => b + a) (dw_r a38.2.1 r40 j))))))) (z := tw_cz z a38.2.2.1 a38.2.2.2) (dw_zX X) dL_randomClue_138 (by decide) (fun h => dw_E23 h) rfl ?_
    refine e_icmp_ge (z := tw_cz z a38.2.2.1 a38.2.2.2) (dw_zX X) dL_randomClue_139 (tgt := 404) (by decide) ?_ ?_
    ·
      refine e_aload_n (z := tw_cz z a38.2.2.1 a38.2.2.2) (dw_zX X) dL_randomClue_404 rfl 2 rfl ?_
      refine e_aload_n (z := tw_cz z a38.2.2.1 a38.2.2.2) (dw_zX X) dL_randomClue_405 rfl 3 rfl ?_
      refine e_ldcS (z := tw_cz z a38.2.2.1 a38.2.2.2) (dw_zX X) dL_randomClue_406 (j := 29) tw_l_W_175 ?_
      refine e_callS (c := a38.2.2.1) (s := a38.2.2.2) (As := [.ref (b + 0), .ref (b + r1), .ref (tw_zS z 29)]) (z := tw_cz z a38.2.2.1 a38.2.2.2) (dw_zX X) (dw_zA hA) (dw_zb hb) (dw_zD hD) dw_z0 (dw_zM eMC eMS) dL_randomClue_408 (fun Q h => dw_m_L_write (dw_zD hD) (by decide) h) dw_y_L_write dw_v_L_write _ dw_w1242 rfl ⟨dw_zf hfr rfl, dw_zl hlo rfl⟩ (Nat.le_of_ble_eq_true rfl) rfl (fun r41 => ?_)
      show dw_Rf (tw_cz z a38.2.2.1 a38.2.2.2) b _ r41 _ [(6, .int a38.1), (4, .ref (b + q21)), (0, .ref (b + 0)), (1, .ref (b + r1)), (2, .ref (b + r2)), (3, .int x3)] []
      refine e_aload (z := tw_cz z a38.2.2.1 a38.2.2.2) (dw_zX X) dL_randomClue_411 1 rfl ?_
      exact e_aret (z := z) X eB dL_randomClue_413 hret (Or.inl ⟨_, rfl⟩) (Or.inr ⟨_, rfl⟩) ⟨eMC, eMS⟩ hQ rfl rfl
    ·
      refine e_new (ci := 14) (T := TX14) (N := 4) (c := a38.2.2.1) (s := a38.2.2.2) (z := tw_cz z a38.2.2.1 a38.2.2.2) (dw_zX X) dw_z0 (dw_zM eMC eMS) dL_randomClue_142 _ dw_w1510 (List.mem_of_getElem? dw_w1511) (List.mem_of_getElem? dw_w68) dw_in14 tyX14 tyX14_ok rfl dw_df14 (by decide) (fun a => dw_fr14) (fun q42 Y43 => ?_)
      show dw_Rf (tw_cz z (a38.2.2.1 + 1) (a38.2.2.2 + 4)) b _ Y43 _ [(6, .int a38.1), (4, .ref (b + q21)), (0, .ref (b + 0)), (1, .ref (b + r1)), (2, .ref (b + r2)), (3, .int x3)] [.ref (b + q42)]
      refine e_dup (z := tw_cz z (a38.2.2.1 + 1) (a38.2.2.2 + 4)) (dw_zX X) dL_randomClue_145 rfl ?_
      refine e_callIN (c := (a38.2.2.1 + 1)) (s := (a38.2.2.2 + 4)) (As := []) (z := tw_cz z (a38.2.2.1 + 1) (a38.2.2.2 + 4)) (dw_zX X) (dw_zA hA) (dw_zb hb) (dw_zD hD) dw_z0 (dw_zM eMC eMS) dL_randomClue_146 (fun Q h => dw_m_X14_init (dw_zD hD) h) dw_y_X14_init dw_v_X14_init rfl _ dw_w1512 rfl ⟨dw_zf hfr rfl, dw_zl hlo rfl⟩ (Nat.le_of_ble_eq_true rfl) rfl (fun r44 => ?_)
      show dw_Rf (tw_cz z (a38.2.2.1 + 1) (a38.2.2.2 + 4)) b _ Y43 _ [(6, .int a38.1), (4, .ref (b + q21)), (0, .ref (b + 0)), (1, .ref (b + r1)), (2, .ref (b + r2)), (3, .int x3)] [.ref (b + q42)]
      refine e_astore (z := tw_cz z (a38.2.2.1 + 1) (a38.2.2.2 + 4)) (dw_zX X) dL_randomClue_149 (by decide) (L' := [(7, .ref (b + q42)), (6, .int a38.1), (4, .ref (b + q21)), (0, .ref (b + 0)), (1, .ref (b + r1)), (2, .ref (b + r2)), (3, .int x3)]) rfl ?_
      refine e_aload (z := tw_cz z (a38.2.2.1 + 1) (a38.2.2.2 + 4)) (dw_zX X) dL_randomClue_151 0 rfl ?_
      refine e_aload_n (z := tw_cz z (a38.2.2.1 + 1) (a38.2.2.2 + 4)) (dw_zX X) dL_randomClue_153 rfl 5 rfl ?_
      refine e_iconst (z := tw_cz z (a38.2.2.1 + 1) (a38.2.2.2 + 4)) (dw_zX X) dL_randomClue_154 (v := (3 : Int32)) (by decide) ?_
      refine e_callV (k := r2) (ci := 15) (Cn := "TreasureWalkLaw$Random") (T := TX15) (N := 1) (c := (a38.2.2.1 + 1)) (s := (a38.2.2.2 + 4)) (As := [.int (3 : Int32)]) (z := tw_cz z (a38.2.2.1 + 1) (a38.2.2.2 + 4)) (dw_zX X) (dw_zA hA) (dw_zb hb) (dw_zD hD) dw_z0 (dw_zM eMC eMS) dL_randomClue_155 (fun Q h => dw_m_X15_below (dw_zD hD) h) dw_y_X15_below dw_v_X15_below _ dw_w743 (by decide) rfl (fun h => dw_E15 h) rfl ⟨dw_zf hfr rfl, dw_zl hlo rfl⟩ (Nat.le_of_ble_eq_true rfl) rfl (fun r45 => ?_)
      show dw_Rf (tw_cz z (a38.2.2.1 + 1) (a38.2.2.2 + 4)) b _ r45.2 _ [(7, .ref (b + q42)), (6, .int a38.1), (4, .ref (b + q21)), (0, .ref (b + 0)), (1, .ref (b + r1)), (2, .ref (b + r2)), (3, .int x3)] [.int r45.1, .ref (b + q42)]
      refine e_jn (α := Int32 × dw_S) (zJ := fun a46 => tw_cz z (a38.2.2.1 + 1) (a38.2.2.2 + 4)) (YJ := fun a46 => a46.2) (pcJ := 172) (LJ := fun a46 => [(7, .ref (b + q42)), (6, .int a38.1), (4, .ref (b + q21)), (0, .ref (b + 0)), (1, .ref (b + r1)), (2, .ref (b + r2)), (3, .int x3)]) (stJ := fun a46 => [.int a46.1, .ref (b + q42)]) (fun a46 => ?_) (fun j47 hj47 => ?_)
      ·
        show dw_Rf (tw_cz z (a38.2.2.1 + 1) (a38.2.2.2 + 4)) b _ a46.2 _ [(7, .ref (b + q42)), (6, .int a38.1), (4, .ref (b + q21)), (0, .ref (b + 0)), (1, .ref (b + r1)), (2, .ref (b + r2)), (3, .int x3)] (.int a46.1 :: .ref (b + q42) :: [])
        refine e_put (ci := 14) (T := TX14) (f := 0) (ty := .int) (k := q42) (z := tw_cz z (a38.2.2.1 + 1) (a38.2.2.2 + 4)) (dw_zX X) (dw_zb hb) dL_randomClue_172 (Or.inl ⟨_, dw_w1517⟩) dw_in14 tyX14 tyX14_ok nmX14 rfl (by decide) rfl (by decide +kernel) rfl rfl (by decide) (fun h => dw_F14 h) (Nat.le_of_ble_eq_true rfl) (fun h => dw_p14_0 h) rfl rfl rfl (fun a ha => dw_E_pi ha) (fun Y48 => ?_)
        refine e_aload (z := tw_cz z (a38.2.2.1 + 1) (a38.2.2.2 + 4)) (dw_zX X) dL_randomClue_175 0 rfl ?_
        refine e_aload_n (z := tw_cz z (a38.2.2.1 + 1) (a38.2.2.2 + 4)) (dw_zX X) dL_randomClue_177 rfl 5 rfl ?_
        refine e_bipush (z := tw_cz z (a38.2.2.1 + 1) (a38.2.2.2 + 4)) (dw_zX X) dL_randomClue_178 (v := (8 : Int32)) (by decide) ?_
        refine e_callV (k := r2) (ci := 15) (Cn := "TreasureWalkLaw$Random") (T := TX15) (N := 1) (c := (a38.2.2.1 + 1)) (s := (a38.2.2.2 + 4)) (As := [.int (8 : Int32)]) (z := tw_cz z (a38.2.2.1 + 1) (a38.2.2.2 + 4)) (dw_zX X) (dw_zA hA) (dw_zb hb) (dw_zD hD) dw_z0 (dw_zM eMC eMS) dL_randomClue_180 (fun Q h => dw_m_X15_below (dw_zD hD) h) dw_y_X15_below dw_v_X15_below _ dw_w743 (by decide) rfl (fun h => dw_E15 h) rfl ⟨dw_zf hfr rfl, dw_zl hlo rfl⟩ (Nat.le_of_ble_eq_true rfl) rfl (fun r49 => ?_)
        show dw_Rf (tw_cz z (a38.2.2.1 + 1) (a38.2.2.2 + 4)) b _ r49.2 _ [(7, .ref (b + q42)), (6, .int a38.1), (4, .ref (b + q21)), (0, .ref (b + 0)), (1, .ref (b + r1)), (2, .ref (b + r2)), (3, .int x3)] [.int r49.1, .ref (b + q42)]
        show dw_Rf (tw_cz z (a38.2.2.1 + 1) (a38.2.2.2 + 4)) b _ r49.2 _ [(7, .ref (b + q42)), (6, .int a38.1), (4, .ref (b + q21)), (0, .ref (b + 0)), (1, .ref (b + r1)), (2, .ref (b + r2)), (3, .int x3)] (.int r49.1 :: .ref (b + q42) :: [])
        refine e_put (ci := 14) (T := TX14) (f := 3) (ty := .int) (k := q42) (z := tw_cz z (a38.2.2.1 + 1) (a38.2.2.2 + 4)) (dw_zX X) (dw_zb hb) dL_randomClue_183 (Or.inl ⟨_, dw_w1523⟩) dw_in14 tyX14 tyX14_ok nmX14 rfl (by decide) rfl (by decide +kernel) rfl rfl (by decide) (fun h => dw_F14 h) (Nat.le_of_ble_eq_true rfl) (fun h => dw_p14_3 h) rfl rfl rfl (fun a ha => dw_E_pi ha) (fun Y50 => ?_)
        refine e_aload (z := tw_cz z (a38.2.2.1 + 1) (a38.2.2.2 + 4)) (dw_zX X) dL_randomClue_186 0 rfl ?_
        refine e_aload (z := tw_cz z (a38.2.2.1 + 1) (a38.2.2.2 + 4)) (dw_zX X) dL_randomClue_188 0 rfl ?_
        refine e_getf (ci := 14) (T := TX14) (f := 0) (k := q42) (z := tw_cz z (a38.2.2.1 + 1) (a38.2.2.2 + 4)) (dw_zX X) dL_randomClue_190 (Or.inl ⟨_, dw_w1517⟩) dw_in14 rfl (by decide) (by decide) (fun h => dw_E14 h) rfl ?_
        refine e_jn (α := Int32 × dw_S) (zJ := fun a51 => tw_cz z (a38.2.2.1 + 1) (a38.2.2.2 + 4)) (YJ := fun a51 => a51.2) (pcJ := 222) (LJ := fun a51 => [(7, .ref (b + q42)), (6, .int a38.1), (4, .ref (b + q21)), (0, .ref (b + 0)), (1, .ref (b + r1)), (2, .ref (b + r2)), (3, .int x3)]) (stJ := fun a51 => [.int a51.1, .ref (b + q42)]) (fun a51 => ?_) (fun j52 hj52 => ?_)
        ·
          show dw_Rf (tw_cz z (a38.2.2.1 + 1) (a38.2.2.2 + 4)) b _ a51.2 _ [(7, .ref (b + q42)), (6, .int a38.1), (4, .ref (b + q21)), (0, .ref (b + 0)), (1, .ref (b + r1)), (2, .ref (b + r2)), (3, .int x3)] (.int a51.1 :: .ref (b + q42) :: [])
          refine e_put (ci := 14) (T := TX14) (f := 1) (ty := .int) (k := q42) (z := tw_cz z (a38.2.2.1 + 1) (a38.2.2.2 + 4)) (dw_zX X) (dw_zb hb) dL_randomClue_222 (Or.inl ⟨_, dw_w1519⟩) dw_in14 tyX14 tyX14_ok nmX14 rfl (by decide) rfl (by decide +kernel) rfl rfl (by decide) (fun h => dw_F14 h) (Nat.le_of_ble_eq_true rfl) (fun h => dw_p14_1 h) rfl rfl rfl (fun a ha => dw_E_pi ha) (fun Y53 => ?_)
          refine e_aload (z := tw_cz z (a38.2.2.1 + 1) (a38.2.2.2 + 4)) (dw_zX X) dL_randomClue_225 0 rfl ?_
          refine e_aload (z := tw_cz z (a38.2.2.1 + 1) (a38.2.2.2 + 4)) (dw_zX X) dL_randomClue_227 0 rfl ?_
          refine e_getf (ci := 14) (T := TX14) (f := 0) (k := q42) (z := tw_cz z (a38.2.2.1 + 1) (a38.2.2.2 + 4)) (dw_zX X) dL_randomClue_229 (Or.inl ⟨_, dw_w1517⟩) dw_in14 rfl (by decide) (by decide) (fun h => dw_E14 h) rfl ?_
          refine e_jn (α := Int32 × dw_S) (zJ := fun a54 => tw_cz z (a38.2.2.1 + 1) (a38.2.2.2 + 4)) (YJ := fun a54 => a54.2) (pcJ := 244) (LJ := fun a54 => [(7, .ref (b + q42)), (6, .int a38.1), (4, .ref (b + q21)), (0, .ref (b + 0)), (1, .ref (b + r1)), (2, .ref (b + r2)), (3, .int x3)]) (stJ := fun a54 => [.int a54.1, .ref (b + q42)]) (fun a54 => ?_) (fun j55 hj55 => ?_)
          ·
            show dw_Rf (tw_cz z (a38.2.2.1 + 1) (a38.2.2.2 + 4)) b _ a54.2 _ [(7, .ref (b + q42)), (6, .int a38.1), (4, .ref (b + q21)), (0, .ref (b + 0)), (1, .ref (b + r1)), (2, .ref (b + r2)), (3, .int x3)] (.int a54.1 :: .ref (b + q42) :: [])
            refine e_put (ci := 14) (T := TX14) (f := 2) (ty := .int) (k := q42) (z := tw_cz z (a38.2.2.1 + 1) (a38.2.2.2 + 4)) (dw_zX X) (dw_zb hb) dL_randomClue_244 (Or.inl ⟨_, dw_w1521⟩) dw_in14 tyX14 tyX14_ok nmX14 rfl (by decide) rfl (by decide +kernel) rfl rfl (by decide) (fun h => dw_F14 h) (Nat.le_of_ble_eq_true rfl) (fun h => dw_p14_2 h) rfl rfl rfl (fun a ha => dw_E_pi ha) (fun Y56 => ?_)
            refine e_aload (z := tw_cz z (a38.2.2.1 + 1) (a38.2.2.2 + 4)) (dw_zX X) dL_randomClue_247 0 rfl ?_
            refine e_getf (ci := 14) (T := TX14) (f := 0) (k := q42) (z := tw_cz z (a38.2.2.1 + 1) (a38.2.2.2 + 4)) (dw_zX X) dL_randomClue_249 (Or.inl ⟨_, dw_w1517⟩) dw_in14 rfl (by decide) (by decide) (fun h => dw_E14 h) rfl ?_
            refine e_jn (α := dw_S × Nat × Nat) (zJ := fun a57 => tw_cz z a57.2.1 a57.2.2) (YJ := fun a57 => a57.1) (pcJ := 273) (LJ := fun a57 => [(7, .ref (b + q42)), (6, .int a38.1), (4, .ref (b + q21)), (0, .ref (b + 0)), (1, .ref (b + r1)), (2, .ref (b + r2)), (3, .int x3)]) (stJ := fun a57 => []) (fun a57 => ?_) (fun j58 hj58 => ?_)
            ·
              refine e_aload (z := tw_cz z a57.2.1 a57.2.2) (dw_zX X) dL_randomClue_273 0 rfl ?_
              refine e_getf (ci := 14) (T := TX14) (f := 0) (k := q42) (z := tw_cz z a57.2.1 a57.2.2) (dw_zX X) dL_randomClue_275 (Or.inl ⟨_, dw_w1517⟩) dw_in14 rfl (by decide) (by decide) (fun h => dw_E14 h) rfl ?_
              refine e_iconst (z := tw_cz z a57.2.1 a57.2.2) (dw_zX X) dL_randomClue_278 (v := (1 : Int32)) (by decide) ?_
              refine e_jn (α := dw_S × Nat × Nat) (zJ := fun a59 => tw_cz z a59.2.1 a59.2.2) (YJ := fun a59 => a59.1) (pcJ := 314) (LJ := fun a59 => [(7, .ref (b + q42)), (6, .int a38.1), (4, .ref (b + q21)), (0, .ref (b + 0)), (1, .ref (b + r1)), (2, .ref (b + r2)), (3, .int x3)]) (stJ := fun a59 => []) (fun a59 => ?_) (fun j60 hj60 => ?_)
              ·
                refine e_aload (z := tw_cz z a59.2.1 a59.2.2) (dw_zX X) dL_randomClue_314 0 rfl ?_
                refine e_getf (ci := 14) (T := TX14) (f := 0) (k := q42) (z := tw_cz z a59.2.1 a59.2.2) (dw_zX X) dL_randomClue_316 (Or.inl ⟨_, dw_w1517⟩) dw_in14 rfl (by decide) (by decide) (fun h => dw_E14 h) rfl ?_
                refine e_iconst (z := tw_cz z a59.2.1 a59.2.2) (dw_zX X) dL_randomClue_319 (v := (2 : Int32)) (by decide) ?_
                refine e_jn (α := dw_S) (zJ := fun a61 => tw_cz z a59.2.1 a59.2.2) (YJ := fun a61 => a61) (pcJ := 330) (LJ := fun a61 => [(7, .ref (b + q42)), (6, .int a38.1), (4, .ref (b + q21)), (0, .ref (b + 0)), (1, .ref (b + r1)), (2, .ref (b + r2)), (3, .int x3)]) (stJ := fun a61 => []) (fun a61 => ?_) (fun j62 hj62 => ?_)
                ·
                  refine e_aload_n (z := tw_cz z a59.2.1 a59.2.2) (dw_zX X) dL_randomClue_330 rfl 3 rfl ?_
                  refine e_aload_n (z := tw_cz z a59.2.1 a59.2.2) (dw_zX X) dL_randomClue_331 rfl 4 rfl ?_
                  refine e_new (ci := 17) (T := TJ4) (N := 4) (c := a59.2.1) (s := a59.2.2) (z := tw_cz z a59.2.1 a59.2.2) (dw_zX X) dw_z0 (dw_zM eMC eMS) dL_randomClue_332 _ dw_w1272 (List.mem_of_getElem? dw_w1273) (List.mem_of_getElem? dw_w65) dw_in17 tyJ4 tyJ4_ok rfl dw_df17 (by decide) (fun a => dw_fr17) (fun q63 Y64 => ?_)
                  show dw_Rf (tw_cz z (a59.2.1 + 1) (a59.2.2 + 4)) b _ Y64 _ [(7, .ref (b + q42)), (6, .int a38.1), (4, .ref (b + q21)), (0, .ref (b + 0)), (1, .ref (b + r1)), (2, .ref (b + r2)), (3, .int x3)] [.ref (b + q63), .ref (b + r1), .ref (b + 0)]
                  refine e_dup (z := tw_cz z (a59.2.1 + 1) (a59.2.2 + 4)) (dw_zX X) dL_randomClue_335 rfl ?_
                  refine e_callI (c := (a59.2.1 + 1)) (s := (a59.2.2 + 4)) (As := []) (z := tw_cz z (a59.2.1 + 1) (a59.2.2 + 4)) (dw_zX X) (dw_zA hA) (dw_zb hb) (dw_zD hD) dw_z0 (dw_zM eMC eMS) dL_randomClue_336 (fun Q h => dw_m_J4_init_da8c8 (dw_zD hD) h) dw_y_J4_init_da8c8 dw_v_J4_init_da8c8 rfl _ dw_w1274 rfl ⟨dw_zf hfr rfl, dw_zl hlo rfl⟩ (Nat.le_of_ble_eq_true rfl) rfl (fun r65 => ?_)
                  show dw_Rf (tw_cz z ((a59.2.1 + 1) + 1) ((a59.2.2 + 4) + 16)) b _ r65 _ [(7, .ref (b + q42)), (6, .int a38.1), (4, .ref (b + q21)), (0, .ref (b + 0)), (1, .ref (b + r1)), (2, .ref (b + r2)), (3, .int x3)] [.ref (b + q63), .ref (b + r1), .ref (b + 0)]
                  refine e_ldcS (z := tw_cz z ((a59.2.1 + 1) + 1) ((a59.2.2 + 4) + 16)) (dw_zX X) dL_randomClue_339 (j := 21) tw_l_W_100 ?_
                  refine e_callV (k := q63) (ci := 17) (Cn := "java/lang/StringBuilder") (T := TJ4) (N := 4) (c := ((a59.2.1 + 1) + 1)) (s := ((a59.2.2 + 4) + 16)) (As := [.ref (tw_zS z 21)]) (z := tw_cz z ((a59.2.1 + 1) + 1) ((a59.2.2 + 4) + 16)) (dw_zX X) (dw_zA hA) (dw_zb hb) (dw_zD hD) dw_z0 (dw_zM eMC eMS) dL_randomClue_341 (fun Q h => dw_m_J4_append_15ec4 (dw_zD hD) (by decide) h) dw_y_J4_append_15ec4 dw_v_J4_append_15ec4 _ dw_w1303 (by decide) rfl (fun h => dw_E17 h) rfl ⟨dw_zf hfr rfl, dw_zl hlo rfl⟩ (Nat.le_of_ble_eq_true rfl) rfl (fun r66 => ?_)
                  show dw_Rf (tw_cz z ((a59.2.1 + 1) + 1) ((a59.2.2 + 4) + 16)) b _ r66.2 _ [(7, .ref (b + q42)), (6, .int a38.1), (4, .ref (b + q21)), (0, .ref (b + 0)), (1, .ref (b + r1)), (2, .ref (b + r2)), (3, .int x3)] [.ref (b + r66.1), .ref (b + r1), .ref (b + 0)]
                  refine e_bear (z := tw_cz z ((a59.2.1 + 1) + 1) ((a59.2.2 + 4) + 16)) X hA dL_randomClue_344 dw_w1536 ?_
                  refine e_aload (z := tw_cz z ((a59.2.1 + 1) + 1) ((a59.2.2 + 4) + 16)) (dw_zX X) dL_randomClue_347 0 rfl ?_
                  refine e_getf (ci := 14) (T := TX14) (f := 3) (k := q42) (z := tw_cz z ((a59.2.1 + 1) + 1) ((a59.2.2 + 4) + 16)) (dw_zX X) dL_randomClue_349 (Or.inl ⟨_, dw_w1523⟩) dw_in14 rfl (by decide) (by decide) (fun h => dw_E14 h) rfl ?_
                  refine e_beald (ix := 0) (z := tw_cz z ((a59.2.1 + 1) + 1) ((a59.2.2 + 4) + 16)) X hA dL_randomClue_352 ?_
                  refine e_ck (fun hs67 => ?_)
                  refine e_callV (k := r66.1) (ci := 17) (Cn := "java/lang/StringBuilder") (T := TJ4) (N := 4) (c := ((a59.2.1 + 1) + 1)) (s := ((a59.2.2 + 4) + 16)) (As := [.ref (tw_zS z (13 + Int32.toNatClampNeg (dw_i r66.2 q42 3)))]) (z := tw_cz z ((a59.2.1 + 1) + 1) ((a59.2.2 + 4) + 16)) (dw_zX X) (dw_zA hA) (dw_zb hb) (dw_zD hD) dw_z0 (dw_zM eMC eMS) dL_randomClue_353 (fun Q h => dw_m_J4_append_15ec4 hD hs67 h) dw_y_J4_append_15ec4 dw_v_J4_append_15ec4 _ dw_w1303 (by decide) rfl (fun h => dw_E17 h) rfl ⟨dw_zf hfr rfl, dw_zl hlo rfl⟩ (Nat.le_of_ble_eq_true rfl) rfl (fun r68 => ?_)
                  show dw_Rf (tw_cz z ((a59.2.1 + 1) + 1) ((a59.2.2 + 4) + 16)) b _ r68.2 _ [(7, .ref (b + q42)), (6, .int a38.1), (4, .ref (b + q21)), (0, .ref (b + 0)), (1, .ref (b + r1)), (2, .ref (b + r2)), (3, .int x3)] [.ref (b + r68.1), .ref (b + r1), .ref (b + 0)]
                  refine e_callV (k := r68.1) (ci := 17) (Cn := "java/lang/StringBuilder") (T := TJ4) (N := 4) (c := ((a59.2.1 + 1) + 1)) (s := ((a59.2.2 + 4) + 16)) (As := []) (z := tw_cz z ((a59.2.1 + 1) + 1) ((a59.2.2 + 4) + 16)) (dw_zX X) (dw_zA hA) (dw_zb hb) (dw_zD hD) dw_z0 (dw_zM eMC eMS) dL_randomClue_356 (fun Q h => dw_m_J4_toString_0e30d (dw_zD hD) h) dw_y_J4_toString_0e30d dw_v_J4_toString_0e30d _ dw_w1409 (by decide) rfl (fun h => dw_E17 h) rfl ⟨dw_zf hfr rfl, dw_zl hlo rfl⟩ (Nat.le_of_ble_eq_true rfl) rfl (fun r69 => ?_)
                  show dw_Rf (tw_cz z (((a59.2.1 + 1) + 1) + 2) (((a59.2.2 + 4) + 16) + 36)) b _ r69.2 _ [(7, .ref (b + q42)), (6, .int a38.1), (4, .ref (b + q21)), (0, .ref (b + 0)), (1, .ref (b + r1)), (2, .ref (b + r2)), (3, .int x3)] [.ref (b + r69.1), .ref (b + r1), .ref (b + 0)]
                  refine e_callS (c := (((a59.2.1 + 1) + 1) + 2)) (s := (((a59.2.2 + 4) + 16) + 36)) (As := [.ref (b + 0), .ref (b + r1), .ref (b + r69.1)]) (z := tw_cz z (((a59.2.1 + 1) + 1) + 2) (((a59.2.2 + 4) + 16) + 36)) (dw_zX X) (dw_zA hA) (dw_zb hb) (dw_zD hD) dw_z0 (dw_zM eMC eMS) dL_randomClue_359 (fun Q h => dw_m_L_writed (dw_zD hD) h) dw_y_L_write dw_v_L_write _ dw_w1242 rfl ⟨dw_zf hfr rfl, dw_zl hlo rfl⟩ (Nat.le_of_ble_eq_true rfl) rfl (fun r70 => ?_)
                  show dw_Rf (tw_cz z (((a59.2.1 + 1) + 1) + 2) (((a59.2.2 + 4) + 16) + 36)) b _ r70 _ [(7, .ref (b + q42)), (6, .int a38.1), (4, .ref (b + q21)), (0, .ref (b + 0)), (1, .ref (b + r1)), (2, .ref (b + r2)), (3, .int x3)] []
                  refine e_aload (z := tw_cz z (((a59.2.1 + 1) + 1) + 2) (((a59.2.2 + 4) + 16) + 36)) (dw_zX X) dL_randomClue_362 0 rfl ?_
                  refine e_getf (ci := 14) (T := TX14) (f := 2) (k := q42) (z := tw_cz z (((a59.2.1 + 1) + 1) + 2) (((a59.2.2 + 4) + 16) + 36)) (dw_zX X) dL_randomClue_364 (Or.inl ⟨_, dw_w1521⟩) dw_in14 rfl (by decide) (by decide) (fun h => dw_E14 h) rfl ?_
                  refine e_jn (α := dw_S × Nat × Nat) (zJ := fun a71 => tw_cz z a71.2.1 a71.2.2) (YJ := fun a71 => a71.1) (pcJ := 388) (LJ := fun a71 => [(7, .ref (b + q42)), (6, .int a38.1), (4, .ref (b + q21)), (0, .ref (b + 0)), (1, .ref (b + r1)), (2, .ref (b + r2)), (3, .int x3)]) (stJ := fun a71 => []) (fun a71 => ?_) (fun j72 hj72 => ?_)
                  ·
                    refine e_aload (z := tw_cz z a71.2.1 a71.2.2) (dw_zX X) dL_randomClue_388 2 rfl ?_
                    refine e_getf (ci := 12) (T := TX12) (f := 1) (k := q21) (z := tw_cz z a71.2.1 a71.2.2) (dw_zX X) dL_randomClue_390 (Or.inl ⟨_, dw_w671⟩) dw_in12 rfl (by decide) (by decide) (fun h => dw_E12 h) rfl ?_
                    refine e_nn (r := (dw_r a71.1 q21 1)) (LL := fun _ => [(7, .ref (b + q42)), (6, .int a38.1), (4, .ref (b + q21)), (0, .ref (b + 0)), (1, .ref (b + r1)), (2, .ref (b + r2)), (3, .int x3)]) (SS := fun q => dw_v b q :: []) (fun r73 => ?_)
                    show dw_Rf (tw_cz z a71.2.1 a71.2.2) b _ a71.1 _ [(7, .ref (b + q42)), (6, .int a38.1), (4, .ref (b + q21)), (0, .ref (b + 0)), (1, .ref (b + r1)), (2, .ref (b + r2)), (3, .int x3)] [.ref (b + r73)]
                    refine e_iload (z := tw_cz z a71.2.1 a71.2.2) (dw_zX X) dL_randomClue_393 1 rfl ?_
                    refine e_aload (z := tw_cz z a71.2.1 a71.2.2) (dw_zX X) dL_randomClue_395 0 rfl ?_
                    show dw_Rf (tw_cz z a71.2.1 a71.2.2) b _ a71.1 _ [(7, .ref (b + q42)), (6, .int a38.1), (4, .ref (b + q21)), (0, .ref (b + 0)), (1, .ref (b + r1)), (2, .ref (b + r2)), (3, .int x3)] (dw_v b (some q42) :: .int a38.1 :: .ref (b + r73) :: [])
                    refine e_aast (k := r73) (kd := 23) (a := 6) (ci := 14) (rc := (RX14, TX14, 4)) (fs := fun v => dw_f14 b a71.1 v) (z := tw_cz z a71.2.1 a71.2.2) (dw_zX X) (dw_zb hb) dL_randomClue_397 (by decide) (by decide) (fun Y h => dw_E23 h) rfl rfl (fun v h => dw_F14 h) (fun Y74 => ?_)
                    refine e_iinc (z := tw_cz z a71.2.1 a71.2.2) (dw_zX X) dL_randomClue_398 1 rfl (v := (1 : Int32)) (by decide) (by decide) (LL := fun v75 => [(6, .int v75), (7, .ref (b + q42)), (4, .ref (b + q21)), (0, .ref (b + 0)), (1, .ref (b + r1)), (2, .ref (b + r2)), (3, .int x3)]) (fun _ => rfl) (fun v75 => ?_)
                    refine e_goto (z := tw_cz z a71.2.1 a71.2.2) (dw_zX X) dL_randomClue_401 (tgt := 131) (by decide) ?_
                    exact dw_Rf.sub [0, 2, 3, 4, 5, 6] rfl (hk39 (v75, Y74, a71.2.1, a71.2.2))
                  refine e_if_le (z := tw_cz z (((a59.2.1 + 1) + 1) + 2) (((a59.2.2 + 4) + 16) + 36)) (dw_zX X) dL_randomClue_367 (tgt := 388) (by decide) ?_ ?_
                  ·
                    exact hj72 (r70, (((a59.2.1 + 1) + 1) + 2), (((a59.2.2 + 4) + 16) + 36))
                  ·
                    refine e_aload_n (z := tw_cz z (((a59.2.1 + 1) + 1) + 2) (((a59.2.2 + 4) + 16) + 36)) (dw_zX X) dL_randomClue_370 rfl 3 rfl ?_
                    refine e_aload_n (z := tw_cz z (((a59.2.1 + 1) + 1) + 2) (((a59.2.2 + 4) + 16) + 36)) (dw_zX X) dL_randomClue_371 rfl 4 rfl ?_
                    refine e_ldcS (z := tw_cz z (((a59.2.1 + 1) + 1) + 2) (((a59.2.2 + 4) + 16) + 36)) (dw_zX X) dL_randomClue_372 (j := 28) tw_l_W_173 ?_
                    refine e_iconst (z := tw_cz z (((a59.2.1 + 1) + 1) + 2) (((a59.2.2 + 4) + 16) + 36)) (dw_zX X) dL_randomClue_374 (v := (1 : Int32)) (by decide) ?_
                    refine e_newi (c := (((a59.2.1 + 1) + 1) + 2)) (s := (((a59.2.2 + 4) + 16) + 36)) (z := tw_cz z (((a59.2.1 + 1) + 1) + 2) (((a59.2.2 + 4) + 16) + 36)) (dw_zX X) dw_z0 (dw_zM eMC eMS) dL_randomClue_375 hA.1.1 (fun q76 Y77 => ?_)
                    show dw_Rf (tw_cz z ((((a59.2.1 + 1) + 1) + 2) + 1) ((((a59.2.2 + 4) + 16) + 36) + (Int32.toNatClampNeg (1 : Int32)))) b _ Y77 _ [(7, .ref (b + q42)), (6, .int a38.1), (4, .ref (b + q21)), (0, .ref (b + 0)), (1, .ref (b + r1)), (2, .ref (b + r2)), (3, .int x3)] [.ref (b + q76), .ref (tw_zS z 28), .ref (b + r1), .ref (b + 0)]
                    refine e_dup (z := tw_cz z ((((a59.2.1 + 1) + 1) + 2) + 1) ((((a59.2.2 + 4) + 16) + 36) + (Int32.toNatClampNeg (1 : Int32)))) (dw_zX X) dL_randomClue_377 rfl ?_
                    refine e_iconst (z := tw_cz z ((((a59.2.1 + 1) + 1) + 2) + 1) ((((a59.2.2 + 4) + 16) + 36) + (Int32.toNatClampNeg (1 : Int32)))) (dw_zX X) dL_randomClue_378 (v := (0 : Int32)) (by decide) ?_
                    refine e_aload (z := tw_cz z ((((a59.2.1 + 1) + 1) + 2) + 1) ((((a59.2.2 + 4) + 16) + 36) + (Int32.toNatClampNeg (1 : Int32)))) (dw_zX X) dL_randomClue_379 0 rfl ?_
                    refine e_getf (ci := 14) (T := TX14) (f := 2) (k := q42) (z := tw_cz z ((((a59.2.1 + 1) + 1) + 2) + 1) ((((a59.2.2 + 4) + 16) + 36) + (Int32.toNatClampNeg (1 : Int32)))) (dw_zX X) dL_randomClue_381 (Or.inl ⟨_, dw_w1521⟩) dw_in14 rfl (by decide) (by decide) (fun h => dw_E14 h) rfl ?_
                    refine e_iast (k := q76) (z := tw_cz z ((((a59.2.1 + 1) + 1) + 2) + 1) ((((a59.2.2 + 4) + 16) + 36) + (Int32.toNatClampNeg (1 : Int32)))) (dw_zX X) (dw_zb hb) dL_randomClue_384 (fun Y78 => ?_)
                    refine e_callS (c := ((((a59.2.1 + 1) + 1) + 2) + 1)) (s := ((((a59.2.2 + 4) + 16) + 36) + (Int32.toNatClampNeg (1 : Int32)))) (As := [.ref (b + 0), .ref (b + r1), .ref (tw_zS z 28), .ref (b + q76)]) (z := tw_cz z ((((a59.2.1 + 1) + 1) + 2) + 1) ((((a59.2.2 + 4) + 16) + 36) + (Int32.toNatClampNeg (1 : Int32)))) (dw_zX X) (dw_zA hA) (dw_zb hb) (dw_zD hD) dw_z0 (dw_zM eMC eMS) dL_randomClue_385 (fun Q h => dw_m_L_writeAll (dw_zD hD) (by decide) h) dw_y_L_writeAll dw_v_L_writeAll _ dw_w1239 rfl ⟨dw_zf hfr rfl, dw_zl hlo rfl⟩ (Nat.le_of_ble_eq_true rfl) rfl (fun r79 => ?_)
                    show dw_Rf (tw_cz z ((((a59.2.1 + 1) + 1) + 2) + 1) ((((a59.2.2 + 4) + 16) + 36) + (Int32.toNatClampNeg (1 : Int32)))) b _ r79 _ [(7, .ref (b + q42)), (6, .int a38.1), (4, .ref (b + q21)), (0, .ref (b + 0)), (1, .ref (b + r1)), (2, .ref (b + r2)), (3, .int x3)] []
                    exact hj72 (r79, ((((a59.2.1 + 1) + 1) + 2) + 1), ((((a59.2.2 + 4) + 16) + 36) + (Int32.toNatClampNeg (1 : Int32))))
                refine e_icmp_ne (z := tw_cz z a59.2.1 a59.2.2) (dw_zX X) dL_randomClue_320 (tgt := 330) (by decide) ?_ ?_
                ·
                  exact hj62 a59.1
                ·
                  refine e_aload_n (z := tw_cz z a59.2.1 a59.2.2) (dw_zX X) dL_randomClue_323 rfl 3 rfl ?_
                  refine e_aload_n (z := tw_cz z a59.2.1 a59.2.2) (dw_zX X) dL_randomClue_324 rfl 4 rfl ?_
                  refine e_ldcS (z := tw_cz z a59.2.1 a59.2.2) (dw_zX X) dL_randomClue_325 (j := 27) tw_l_W_167 ?_
                  refine e_callS (c := a59.2.1) (s := a59.2.2) (As := [.ref (b + 0), .ref (b + r1), .ref (tw_zS z 27)]) (z := tw_cz z a59.2.1 a59.2.2) (dw_zX X) (dw_zA hA) (dw_zb hb) (dw_zD hD) dw_z0 (dw_zM eMC eMS) dL_randomClue_327 (fun Q h => dw_m_L_write (dw_zD hD) (by decide) h) dw_y_L_write dw_v_L_write _ dw_w1242 rfl ⟨dw_zf hfr rfl, dw_zl hlo rfl⟩ (Nat.le_of_ble_eq_true rfl) rfl (fun r80 => ?_)
                  show dw_Rf (tw_cz z a59.2.1 a59.2.2) b _ r80 _ [(7, .ref (b + q42)), (6, .int a38.1), (4, .ref (b + q21)), (0, .ref (b + 0)), (1, .ref (b + r1)), (2, .ref (b + r2)), (3, .int x3)] []
                  exact hj62 r80
              refine e_icmp_ne (z := tw_cz z a57.2.1 a57.2.2) (dw_zX X) dL_randomClue_279 (tgt := 314) (by decide) ?_ ?_
              ·
                exact hj60 (a57.1, a57.2.1, a57.2.2)
              ·
                refine e_aload_n (z := tw_cz z a57.2.1 a57.2.2) (dw_zX X) dL_randomClue_282 rfl 3 rfl ?_
                refine e_aload_n (z := tw_cz z a57.2.1 a57.2.2) (dw_zX X) dL_randomClue_283 rfl 4 rfl ?_
                refine e_new (ci := 17) (T := TJ4) (N := 4) (c := a57.2.1) (s := a57.2.2) (z := tw_cz z a57.2.1 a57.2.2) (dw_zX X) dw_z0 (dw_zM eMC eMS) dL_randomClue_284 _ dw_w1272 (List.mem_of_getElem? dw_w1273) (List.mem_of_getElem? dw_w65) dw_in17 tyJ4 tyJ4_ok rfl dw_df17 (by decide) (fun a => dw_fr17) (fun q81 Y82 => ?_)
                show dw_Rf (tw_cz z (a57.2.1 + 1) (a57.2.2 + 4)) b _ Y82 _ [(7, .ref (b + q42)), (6, .int a38.1), (4, .ref (b + q21)), (0, .ref (b + 0)), (1, .ref (b + r1)), (2, .ref (b + r2)), (3, .int x3)] [.ref (b + q81), .ref (b + r1), .ref (b + 0)]
                refine e_dup (z := tw_cz z (a57.2.1 + 1) (a57.2.2 + 4)) (dw_zX X) dL_randomClue_287 rfl ?_
                refine e_callI (c := (a57.2.1 + 1)) (s := (a57.2.2 + 4)) (As := []) (z := tw_cz z (a57.2.1 + 1) (a57.2.2 + 4)) (dw_zX X) (dw_zA hA) (dw_zb hb) (dw_zD hD) dw_z0 (dw_zM eMC eMS) dL_randomClue_288 (fun Q h => dw_m_J4_init_da8c8 (dw_zD hD) h) dw_y_J4_init_da8c8 dw_v_J4_init_da8c8 rfl _ dw_w1274 rfl ⟨dw_zf hfr rfl, dw_zl hlo rfl⟩ (Nat.le_of_ble_eq_true rfl) rfl (fun r83 => ?_)
                show dw_Rf (tw_cz z ((a57.2.1 + 1) + 1) ((a57.2.2 + 4) + 16)) b _ r83 _ [(7, .ref (b + q42)), (6, .int a38.1), (4, .ref (b + q21)), (0, .ref (b + 0)), (1, .ref (b + r1)), (2, .ref (b + r2)), (3, .int x3)] [.ref (b + q81), .ref (b + r1), .ref (b + 0)]
                refine e_ldcS (z := tw_cz z ((a57.2.1 + 1) + 1) ((a57.2.2 + 4) + 16)) (dw_zX X) dL_randomClue_291 (j := 26) tw_l_W_165 ?_
                refine e_callV (k := q81) (ci := 17) (Cn := "java/lang/StringBuilder") (T := TJ4) (N := 4) (c := ((a57.2.1 + 1) + 1)) (s := ((a57.2.2 + 4) + 16)) (As := [.ref (tw_zS z 26)]) (z := tw_cz z ((a57.2.1 + 1) + 1) ((a57.2.2 + 4) + 16)) (dw_zX X) (dw_zA hA) (dw_zb hb) (dw_zD hD) dw_z0 (dw_zM eMC eMS) dL_randomClue_293 (fun Q h => dw_m_J4_append_15ec4 (dw_zD hD) (by decide) h) dw_y_J4_append_15ec4 dw_v_J4_append_15ec4 _ dw_w1303 (by decide) rfl (fun h => dw_E17 h) rfl ⟨dw_zf hfr rfl, dw_zl hlo rfl⟩ (Nat.le_of_ble_eq_true rfl) rfl (fun r84 => ?_)
                show dw_Rf (tw_cz z ((a57.2.1 + 1) + 1) ((a57.2.2 + 4) + 16)) b _ r84.2 _ [(7, .ref (b + q42)), (6, .int a38.1), (4, .ref (b + q21)), (0, .ref (b + 0)), (1, .ref (b + r1)), (2, .ref (b + r2)), (3, .int x3)] [.ref (b + r84.1), .ref (b + r1), .ref (b + 0)]
                refine e_bipush (z := tw_cz z ((a57.2.1 + 1) + 1) ((a57.2.2 + 4) + 16)) (dw_zX X) dL_randomClue_296 (v := (97 : Int32)) (by decide) ?_
                refine e_aload (z := tw_cz z ((a57.2.1 + 1) + 1) ((a57.2.2 + 4) + 16)) (dw_zX X) dL_randomClue_298 0 rfl ?_
                refine e_getf (ci := 14) (T := TX14) (f := 1) (k := q42) (z := tw_cz z ((a57.2.1 + 1) + 1) ((a57.2.2 + 4) + 16)) (dw_zX X) dL_randomClue_300 (Or.inl ⟨_, dw_w1519⟩) dw_in14 rfl (by decide) (by decide) (fun h => dw_E14 h) rfl ?_
                refine e_iadd (z := tw_cz z ((a57.2.1 + 1) + 1) ((a57.2.2 + 4) + 16)) (dw_zX X) dL_randomClue_303 ?_
                refine e_i2c (z := tw_cz z ((a57.2.1 + 1) + 1) ((a57.2.2 + 4) + 16)) (dw_zX X) dL_randomClue_304 rfl ?_
                refine e_callV (k := r84.1) (ci := 17) (Cn := "java/lang/StringBuilder") (T := TJ4) (N := 4) (c := ((a57.2.1 + 1) + 1)) (s := ((a57.2.2 + 4) + 16)) (As := [.int ((Int32.toUInt32 ((97 : Int32) + (dw_i r84.2 q42 1)) % 65536).toInt32)]) (z := tw_cz z ((a57.2.1 + 1) + 1) ((a57.2.2 + 4) + 16)) (dw_zX X) (dw_zA hA) (dw_zb hb) (dw_zD hD) dw_z0 (dw_zM eMC eMS) dL_randomClue_305 (fun Q h => dw_m_J4_append_cf468 (dw_zD hD) h) dw_y_J4_append_cf468 dw_v_J4_append_cf468 _ dw_w1396 (by decide) rfl (fun h => dw_E17 h) rfl ⟨dw_zf hfr rfl, dw_zl hlo rfl⟩ (Nat.le_of_ble_eq_true rfl) rfl (fun r85 => ?_)
                show dw_Rf (tw_cz z ((a57.2.1 + 1) + 1) ((a57.2.2 + 4) + 16)) b _ r85.2 _ [(7, .ref (b + q42)), (6, .int a38.1), (4, .ref (b + q21)), (0, .ref (b + 0)), (1, .ref (b + r1)), (2, .ref (b + r2)), (3, .int x3)] [.ref (b + r85.1), .ref (b + r1), .ref (b + 0)]
                refine e_callV (k := r85.1) (ci := 17) (Cn := "java/lang/StringBuilder") (T := TJ4) (N := 4) (c := ((a57.2.1 + 1) + 1)) (s := ((a57.2.2 + 4) + 16)) (As := []) (z := tw_cz z ((a57.2.1 + 1) + 1) ((a57.2.2 + 4) + 16)) (dw_zX X) (dw_zA hA) (dw_zb hb) (dw_zD hD) dw_z0 (dw_zM eMC eMS) dL_randomClue_308 (fun Q h => dw_m_J4_toString_0e30d (dw_zD hD) h) dw_y_J4_toString_0e30d dw_v_J4_toString_0e30d _ dw_w1409 (by decide) rfl (fun h => dw_E17 h) rfl ⟨dw_zf hfr rfl, dw_zl hlo rfl⟩ (Nat.le_of_ble_eq_true rfl) rfl (fun r86 => ?_)
                show dw_Rf (tw_cz z (((a57.2.1 + 1) + 1) + 2) (((a57.2.2 + 4) + 16) + 36)) b _ r86.2 _ [(7, .ref (b + q42)), (6, .int a38.1), (4, .ref (b + q21)), (0, .ref (b + 0)), (1, .ref (b + r1)), (2, .ref (b + r2)), (3, .int x3)] [.ref (b + r86.1), .ref (b + r1), .ref (b + 0)]
                refine e_callS (c := (((a57.2.1 + 1) + 1) + 2)) (s := (((a57.2.2 + 4) + 16) + 36)) (As := [.ref (b + 0), .ref (b + r1), .ref (b + r86.1)]) (z := tw_cz z (((a57.2.1 + 1) + 1) + 2) (((a57.2.2 + 4) + 16) + 36)) (dw_zX X) (dw_zA hA) (dw_zb hb) (dw_zD hD) dw_z0 (dw_zM eMC eMS) dL_randomClue_311 (fun Q h => dw_m_L_writed (dw_zD hD) h) dw_y_L_write dw_v_L_write _ dw_w1242 rfl ⟨dw_zf hfr rfl, dw_zl hlo rfl⟩ (Nat.le_of_ble_eq_true rfl) rfl (fun r87 => ?_)
                show dw_Rf (tw_cz z (((a57.2.1 + 1) + 1) + 2) (((a57.2.2 + 4) + 16) + 36)) b _ r87 _ [(7, .ref (b + q42)), (6, .int a38.1), (4, .ref (b + q21)), (0, .ref (b + 0)), (1, .ref (b + r1)), (2, .ref (b + r2)), (3, .int x3)] []
                exact hj60 (r87, (((a57.2.1 + 1) + 1) + 2), (((a57.2.2 + 4) + 16) + 36))
            refine e_if_ne (z := tw_cz z (a38.2.2.1 + 1) (a38.2.2.2 + 4)) (dw_zX X) dL_randomClue_252 (tgt := 273) (by decide) ?_ ?_
            ·
              exact hj58 (Y56, (a38.2.2.1 + 1), (a38.2.2.2 + 4))
            ·
              refine e_aload_n (z := tw_cz z (a38.2.2.1 + 1) (a38.2.2.2 + 4)) (dw_zX X) dL_randomClue_255 rfl 3 rfl ?_
              refine e_aload_n (z := tw_cz z (a38.2.2.1 + 1) (a38.2.2.2 + 4)) (dw_zX X) dL_randomClue_256 rfl 4 rfl ?_
              refine e_ldcS (z := tw_cz z (a38.2.2.1 + 1) (a38.2.2.2 + 4)) (dw_zX X) dL_randomClue_257 (j := 25) tw_l_W_159 ?_
              refine e_iconst (z := tw_cz z (a38.2.2.1 + 1) (a38.2.2.2 + 4)) (dw_zX X) dL_randomClue_259 (v := (1 : Int32)) (by decide) ?_
              refine e_newi (c := (a38.2.2.1 + 1)) (s := (a38.2.2.2 + 4)) (z := tw_cz z (a38.2.2.1 + 1) (a38.2.2.2 + 4)) (dw_zX X) dw_z0 (dw_zM eMC eMS) dL_randomClue_260 hA.1.1 (fun q88 Y89 => ?_)
              show dw_Rf (tw_cz z ((a38.2.2.1 + 1) + 1) ((a38.2.2.2 + 4) + (Int32.toNatClampNeg (1 : Int32)))) b _ Y89 _ [(7, .ref (b + q42)), (6, .int a38.1), (4, .ref (b + q21)), (0, .ref (b + 0)), (1, .ref (b + r1)), (2, .ref (b + r2)), (3, .int x3)] [.ref (b + q88), .ref (tw_zS z 25), .ref (b + r1), .ref (b + 0)]
              refine e_dup (z := tw_cz z ((a38.2.2.1 + 1) + 1) ((a38.2.2.2 + 4) + (Int32.toNatClampNeg (1 : Int32)))) (dw_zX X) dL_randomClue_262 rfl ?_
              refine e_iconst (z := tw_cz z ((a38.2.2.1 + 1) + 1) ((a38.2.2.2 + 4) + (Int32.toNatClampNeg (1 : Int32)))) (dw_zX X) dL_randomClue_263 (v := (0 : Int32)) (by decide) ?_
              refine e_aload (z := tw_cz z ((a38.2.2.1 + 1) + 1) ((a38.2.2.2 + 4) + (Int32.toNatClampNeg (1 : Int32)))) (dw_zX X) dL_randomClue_264 0 rfl ?_
              refine e_getf (ci := 14) (T := TX14) (f := 1) (k := q42) (z := tw_cz z ((a38.2.2.1 + 1) + 1) ((a38.2.2.2 + 4) + (Int32.toNatClampNeg (1 : Int32)))) (dw_zX X) dL_randomClue_266 (Or.inl ⟨_, dw_w1519⟩) dw_in14 rfl (by decide) (by decide) (fun h => dw_E14 h) rfl ?_
              refine e_iast (k := q88) (z := tw_cz z ((a38.2.2.1 + 1) + 1) ((a38.2.2.2 + 4) + (Int32.toNatClampNeg (1 : Int32)))) (dw_zX X) (dw_zb hb) dL_randomClue_269 (fun Y90 => ?_)
              refine e_callS (c := ((a38.2.2.1 + 1) + 1)) (s := ((a38.2.2.2 + 4) + (Int32.toNatClampNeg (1 : Int32)))) (As := [.ref (b + 0), .ref (b + r1), .ref (tw_zS z 25), .ref (b + q88)]) (z := tw_cz z ((a38.2.2.1 + 1) + 1) ((a38.2.2.2 + 4) + (Int32.toNatClampNeg (1 : Int32)))) (dw_zX X) (dw_zA hA) (dw_zb hb) (dw_zD hD) dw_z0 (dw_zM eMC eMS) dL_randomClue_270 (fun Q h => dw_m_L_writeAll (dw_zD hD) (by decide) h) dw_y_L_writeAll dw_v_L_writeAll _ dw_w1239 rfl ⟨dw_zf hfr rfl, dw_zl hlo rfl⟩ (Nat.le_of_ble_eq_true rfl) rfl (fun r91 => ?_)
              show dw_Rf (tw_cz z ((a38.2.2.1 + 1) + 1) ((a38.2.2.2 + 4) + (Int32.toNatClampNeg (1 : Int32)))) b _ r91 _ [(7, .ref (b + q42)), (6, .int a38.1), (4, .ref (b + q21)), (0, .ref (b + 0)), (1, .ref (b + r1)), (2, .ref (b + r2)), (3, .int x3)] []
              exact hj58 (r91, ((a38.2.2.1 + 1) + 1), ((a38.2.2.2 + 4) + (Int32.toNatClampNeg (1 : Int32))))
          refine e_if_ne (z := tw_cz z (a38.2.2.1 + 1) (a38.2.2.2 + 4)) (dw_zX X) dL_randomClue_232 (tgt := 243) (by decide) ?_ ?_
          ·
            refine e_iconst (z := tw_cz z (a38.2.2.1 + 1) (a38.2.2.2 + 4)) (dw_zX X) dL_randomClue_243 (v := (0 : Int32)) (by decide) ?_
            exact hj55 ((0 : Int32), Y53)
          ·
            refine e_aload_n (z := tw_cz z (a38.2.2.1 + 1) (a38.2.2.2 + 4)) (dw_zX X) dL_randomClue_235 rfl 5 rfl ?_
            refine e_iconst (z := tw_cz z (a38.2.2.1 + 1) (a38.2.2.2 + 4)) (dw_zX X) dL_randomClue_236 (v := (3 : Int32)) (by decide) ?_
            refine e_callV (k := r2) (ci := 15) (Cn := "TreasureWalkLaw$Random") (T := TX15) (N := 1) (c := (a38.2.2.1 + 1)) (s := (a38.2.2.2 + 4)) (As := [.int (3 : Int32)]) (z := tw_cz z (a38.2.2.1 + 1) (a38.2.2.2 + 4)) (dw_zX X) (dw_zA hA) (dw_zb hb) (dw_zD hD) dw_z0 (dw_zM eMC eMS) dL_randomClue_237 (fun Q h => dw_m_X15_below (dw_zD hD) h) dw_y_X15_below dw_v_X15_below _ dw_w743 (by decide) rfl (fun h => dw_E15 h) rfl ⟨dw_zf hfr rfl, dw_zl hlo rfl⟩ (Nat.le_of_ble_eq_true rfl) rfl (fun r92 => ?_)
            show dw_Rf (tw_cz z (a38.2.2.1 + 1) (a38.2.2.2 + 4)) b _ r92.2 _ [(7, .ref (b + q42)), (6, .int a38.1), (4, .ref (b + q21)), (0, .ref (b + 0)), (1, .ref (b + r1)), (2, .ref (b + r2)), (3, .int x3)] [.int r92.1, .ref (b + q42)]
            refine e_goto (z := tw_cz z (a38.2.2.1 + 1) (a38.2.2.2 + 4)) (dw_zX X) dL_randomClue_240 (tgt := 244) (by decide) ?_
            exact hj55 (r92.1, r92.2)
        refine e_if_ne (z := tw_cz z (a38.2.2.1 + 1) (a38.2.2.2 + 4)) (dw_zX X) dL_randomClue_193 (tgt := 204) (by decide) ?_ ?_
        ·
          refine e_aload (z := tw_cz z (a38.2.2.1 + 1) (a38.2.2.2 + 4)) (dw_zX X) dL_randomClue_204 0 rfl ?_
          refine e_getf (ci := 14) (T := TX14) (f := 0) (k := q42) (z := tw_cz z (a38.2.2.1 + 1) (a38.2.2.2 + 4)) (dw_zX X) dL_randomClue_206 (Or.inl ⟨_, dw_w1517⟩) dw_in14 rfl (by decide) (by decide) (fun h => dw_E14 h) rfl ?_
          refine e_iconst (z := tw_cz z (a38.2.2.1 + 1) (a38.2.2.2 + 4)) (dw_zX X) dL_randomClue_209 (v := (1 : Int32)) (by decide) ?_
          refine e_icmp_ne (z := tw_cz z (a38.2.2.1 + 1) (a38.2.2.2 + 4)) (dw_zX X) dL_randomClue_210 (tgt := 221) (by decide) ?_ ?_
          ·
            refine e_iconst (z := tw_cz z (a38.2.2.1 + 1) (a38.2.2.2 + 4)) (dw_zX X) dL_randomClue_221 (v := (0 : Int32)) (by decide) ?_
            exact hj52 ((0 : Int32), Y50)
          ·
            refine e_aload_n (z := tw_cz z (a38.2.2.1 + 1) (a38.2.2.2 + 4)) (dw_zX X) dL_randomClue_213 rfl 5 rfl ?_
            refine e_iload_n (z := tw_cz z (a38.2.2.1 + 1) (a38.2.2.2 + 4)) (dw_zX X) dL_randomClue_214 rfl 6 rfl ?_
            refine e_callV (k := r2) (ci := 15) (Cn := "TreasureWalkLaw$Random") (T := TX15) (N := 1) (c := (a38.2.2.1 + 1)) (s := (a38.2.2.2 + 4)) (As := [.int x3]) (z := tw_cz z (a38.2.2.1 + 1) (a38.2.2.2 + 4)) (dw_zX X) (dw_zA hA) (dw_zb hb) (dw_zD hD) dw_z0 (dw_zM eMC eMS) dL_randomClue_215 (fun Q h => dw_m_X15_below (dw_zD hD) h) dw_y_X15_below dw_v_X15_below _ dw_w743 (by decide) rfl (fun h => dw_E15 h) rfl ⟨dw_zf hfr rfl, dw_zl hlo rfl⟩ (Nat.le_of_ble_eq_true rfl) rfl (fun r93 => ?_)
            show dw_Rf (tw_cz z (a38.2.2.1 + 1) (a38.2.2.2 + 4)) b _ r93.2 _ [(7, .ref (b + q42)), (6, .int a38.1), (4, .ref (b + q21)), (0, .ref (b + 0)), (1, .ref (b + r1)), (2, .ref (b + r2)), (3, .int x3)] [.int r93.1, .ref (b + q42)]
            refine e_goto (z := tw_cz z (a38.2.2.1 + 1) (a38.2.2.2 + 4)) (dw_zX X) dL_randomClue_218 (tgt := 222) (by decide) ?_
            exact hj52 (r93.1, r93.2)
        ·
          refine e_aload_n (z := tw_cz z (a38.2.2.1 + 1) (a38.2.2.2 + 4)) (dw_zX X) dL_randomClue_196 rfl 5 rfl ?_
          refine e_iconst (z := tw_cz z (a38.2.2.1 + 1) (a38.2.2.2 + 4)) (dw_zX X) dL_randomClue_197 (v := (5 : Int32)) (by decide) ?_
          refine e_callV (k := r2) (ci := 15) (Cn := "TreasureWalkLaw$Random") (T := TX15) (N := 1) (c := (a38.2.2.1 + 1)) (s := (a38.2.2.2 + 4)) (As := [.int (5 : Int32)]) (z := tw_cz z (a38.2.2.1 + 1) (a38.2.2.2 + 4)) (dw_zX X) (dw_zA hA) (dw_zb hb) (dw_zD hD) dw_z0 (dw_zM eMC eMS) dL_randomClue_198 (fun Q h => dw_m_X15_below (dw_zD hD) h) dw_y_X15_below dw_v_X15_below _ dw_w743 (by decide) rfl (fun h => dw_E15 h) rfl ⟨dw_zf hfr rfl, dw_zl hlo rfl⟩ (Nat.le_of_ble_eq_true rfl) rfl (fun r94 => ?_)
          show dw_Rf (tw_cz z (a38.2.2.1 + 1) (a38.2.2.2 + 4)) b _ r94.2 _ [(7, .ref (b + q42)), (6, .int a38.1), (4, .ref (b + q21)), (0, .ref (b + 0)), (1, .ref (b + r1)), (2, .ref (b + r2)), (3, .int x3)] [.int r94.1, .ref (b + q42)]
          refine e_goto (z := tw_cz z (a38.2.2.1 + 1) (a38.2.2.2 + 4)) (dw_zX X) dL_randomClue_201 (tgt := 222) (by decide) ?_
          exact hj52 (r94.1, r94.2)
      refine e_if_ne (z := tw_cz z (a38.2.2.1 + 1) (a38.2.2.2 + 4)) (dw_zX X) dL_randomClue_158 (tgt := 171) (by decide) ?_ ?_
      ·
        refine e_iconst (z := tw_cz z (a38.2.2.1 + 1) (a38.2.2.2 + 4)) (dw_zX X) dL_randomClue_171 (v := (0 : Int32)) (by decide) ?_
        exact hj47 ((0 : Int32), r45.2)
      ·
        refine e_iconst (z := tw_cz z (a38.2.2.1 + 1) (a38.2.2.2 + 4)) (dw_zX X) dL_randomClue_161 (v := (1 : Int32)) (by decide) ?_
        refine e_aload_n (z := tw_cz z (a38.2.2.1 + 1) (a38.2.2.2 + 4)) (dw_zX X) dL_randomClue_162 rfl 5 rfl ?_
        refine e_iconst (z := tw_cz z (a38.2.2.1 + 1) (a38.2.2.2 + 4)) (dw_zX X) dL_randomClue_163 (v := (2 : Int32)) (by decide) ?_
        refine e_callV (k := r2) (ci := 15) (Cn := "TreasureWalkLaw$Random") (T := TX15) (N := 1) (c := (a38.2.2.1 + 1)) (s := (a38.2.2.2 + 4)) (As := [.int (2 : Int32)]) (z := tw_cz z (a38.2.2.1 + 1) (a38.2.2.2 + 4)) (dw_zX X) (dw_zA hA) (dw_zb hb) (dw_zD hD) dw_z0 (dw_zM eMC eMS) dL_randomClue_164 (fun Q h => dw_m_X15_below (dw_zD hD) h) dw_y_X15_below dw_v_X15_below _ dw_w743 (by decide) rfl (fun h => dw_E15 h) rfl ⟨dw_zf hfr rfl, dw_zl hlo rfl⟩ (Nat.le_of_ble_eq_true rfl) rfl (fun r95 => ?_)
        show dw_Rf (tw_cz z (a38.2.2.1 + 1) (a38.2.2.2 + 4)) b _ r95.2 _ [(7, .ref (b + q42)), (6, .int a38.1), (4, .ref (b + q21)), (0, .ref (b + 0)), (1, .ref (b + r1)), (2, .ref (b + r2)), (3, .int x3)] [.int r95.1, .int (1 : Int32), .ref (b + q42)]
        refine e_iadd (z := tw_cz z (a38.2.2.1 + 1) (a38.2.2.2 + 4)) (dw_zX X) dL_randomClue_167 ?_
        refine e_goto (z := tw_cz z (a38.2.2.1 + 1) (a38.2.2.2 + 4)) (dw_zX X) dL_randomClue_168 (tgt := 172) (by decide) ?_
        exact hj47 (((1 : Int32) + r95.1), r95.2)
  refine e_icmp_ge (z := tw_cz z a28.2.2.1 a28.2.2.2) (dw_zX X) dL_randomClue_35 (tgt := 115) (by decide) ?_ ?_
  ·
    exact dw_Rf.sub [2, 3, 4, 5, 6] rfl (hj32 ())
  ·
    refine e_iload (z := tw_cz z a28.2.2.1 a28.2.2.2) (dw_zX X) dL_randomClue_38 0 rfl ?_
    refine e_iload_n (z := tw_cz z a28.2.2.1 a28.2.2.2) (dw_zX X) dL_randomClue_40 rfl 6 rfl ?_
    refine e_icmp_ge (z := tw_cz z a28.2.2.1 a28.2.2.2) (dw_zX X) dL_randomClue_41 (tgt := 115) (by decide) ?_ ?_
    ·
      exact dw_Rf.sub [2, 3, 4, 5, 6] rfl (hj32 ())
    ·
      refine e_iload (z := tw_cz z a28.2.2.1 a28.2.2.2) (dw_zX X) dL_randomClue_44 1 rfl ?_
      refine e_iload (z := tw_cz z a28.2.2.1 a28.2.2.2) (dw_zX X) dL_randomClue_46 0 rfl ?_
      refine e_iadd (z := tw_cz z a28.2.2.1 a28.2.2.2) (dw_zX X) dL_randomClue_48 ?_
      refine e_iload_n (z := tw_cz z a28.2.2.1 a28.2.2.2) (dw_zX X) dL_randomClue_49 rfl 6 rfl ?_
      refine e_irem (z := tw_cz z a28.2.2.1 a28.2.2.2) (dw_zX X) dL_randomClue_50 ?_
      refine e_istore (z := tw_cz z a28.2.2.1 a28.2.2.2) (dw_zX X) dL_randomClue_51 (by decide) (LL := fun v96 => [(7, .int v96), (6, .int a28.1), (5, .int v26), (4, .ref (b + q21)), (0, .ref (b + 0)), (1, .ref (b + r1)), (2, .ref (b + r2)), (3, .int x3)]) (fun _ => rfl) (fun v96 => ?_)
      refine e_aload (z := tw_cz z a28.2.2.1 a28.2.2.2) (dw_zX X) dL_randomClue_53 3 rfl ?_
      refine e_aload (z := tw_cz z a28.2.2.1 a28.2.2.2) (dw_zX X) dL_randomClue_55 3 rfl ?_
      refine e_getf (ci := 12) (T := TX12) (f := 0) (k := q21) (z := tw_cz z a28.2.2.1 a28.2.2.2) (dw_zX X) dL_randomClue_57 (Or.inl ⟨_, dw_w668⟩) dw_in12 rfl (by decide) (by decide) (fun h => dw_E12 h) rfl ?_
      refine e_nn (r := (dw_r r30.2 q21 0)) (LL := fun _ => [(7, .int v96), (6, .int a28.1), (5, .int v26), (4, .ref (b + q21)), (0, .ref (b + 0)), (1, .ref (b + r1)), (2, .ref (b + r2)), (3, .int x3)]) (SS := fun q => dw_v b q :: [.ref (b + q21)]) (fun r97 => ?_)
      show dw_Rf (tw_cz z a28.2.2.1 a28.2.2.2) b _ r30.2 _ [(7, .int v96), (6, .int a28.1), (5, .int v26), (4, .ref (b + q21)), (0, .ref (b + 0)), (1, .ref (b + r1)), (2, .ref (b + r2)), (3, .int x3)] [.ref (b + r97), .ref (b + q21)]
      refine e_iload (z := tw_cz z a28.2.2.1 a28.2.2.2) (dw_zX X) dL_randomClue_60 0 rfl ?_
      refine e_callS (c := a28.2.2.1) (s := a28.2.2.2) (As := [.ref (b + r97), .int v96]) (z := tw_cz z a28.2.2.1 a28.2.2.2) (dw_zX X) (dw_zA hA) (dw_zb hb) (dw_zD hD) dw_z0 (dw_zM eMC eMS) dL_randomClue_62 (fun Q h => dw_m_L_with (dw_zD hD) h) dw_y_L_with dw_v_L_with _ dw_w1505 rfl ⟨dw_zf hfr rfl, dw_zl hlo rfl⟩ (Nat.le_of_ble_eq_true rfl) rfl (fun r98 => ?_)
      show dw_Rf (tw_cz z (a28.2.2.1 + 1) (a28.2.2.2 + 8)) b _ r98.2 _ [(7, .int v96), (6, .int a28.1), (5, .int v26), (4, .ref (b + q21)), (0, .ref (b + 0)), (1, .ref (b + r1)), (2, .ref (b + r2)), (3, .int x3)] [.ref (b + r98.1), .ref (b + q21)]
      show dw_Rf (tw_cz z (a28.2.2.1 + 1) (a28.2.2.2 + 8)) b _ r98.2 _ [(7, .int v96), (6, .int a28.1), (5, .int v26), (4, .ref (b + q21)), (0, .ref (b + 0)), (1, .ref (b + r1)), (2, .ref (b + r2)), (3, .int x3)] (dw_v b (some r98.1) :: .ref (b + q21) :: [])
      refine e_put (ci := 12) (T := TX12) (f := 0) (ty := .array .int) (k := q21) (z := tw_cz z (a28.2.2.1 + 1) (a28.2.2.2 + 8)) (dw_zX X) (dw_zb hb) dL_randomClue_65 (Or.inl ⟨_, dw_w668⟩) dw_in12 tyX12 tyX12_ok nmX12 rfl (by decide) rfl (by decide +kernel) dw_narrow dw_fitsA (by decide) (fun h => dw_F12 h) (Nat.le_of_ble_eq_true rfl) (fun h => dw_p12_0 h) rfl rfl rfl (fun a ha => dw_E_pr ha) (fun Y99 => ?_)
      refine e_iload (z := tw_cz z (a28.2.2.1 + 1) (a28.2.2.2 + 8)) (dw_zX X) dL_randomClue_68 1 rfl ?_
      refine e_jn (α := dw_S) (zJ := fun a100 => tw_cz z (a28.2.2.1 + 1) (a28.2.2.2 + 8)) (YJ := fun a100 => a100) (pcJ := 80) (LJ := fun a100 => [(7, .int v96), (6, .int a28.1), (5, .int v26), (4, .ref (b + q21)), (0, .ref (b + 0)), (1, .ref (b + r1)), (2, .ref (b + r2)), (3, .int x3)]) (stJ := fun a100 => []) (fun a100 => ?_) (fun j101 hj101 => ?_)
      ·
        refine e_aload_n (z := tw_cz z (a28.2.2.1 + 1) (a28.2.2.2 + 8)) (dw_zX X) dL_randomClue_80 rfl 4 rfl ?_
        refine e_aload_n (z := tw_cz z (a28.2.2.1 + 1) (a28.2.2.2 + 8)) (dw_zX X) dL_randomClue_81 rfl 5 rfl ?_
        refine e_new (ci := 17) (T := TJ4) (N := 4) (c := (a28.2.2.1 + 1)) (s := (a28.2.2.2 + 8)) (z := tw_cz z (a28.2.2.1 + 1) (a28.2.2.2 + 8)) (dw_zX X) dw_z0 (dw_zM eMC eMS) dL_randomClue_82 _ dw_w1272 (List.mem_of_getElem? dw_w1273) (List.mem_of_getElem? dw_w65) dw_in17 tyJ4 tyJ4_ok rfl dw_df17 (by decide) (fun a => dw_fr17) (fun q102 Y103 => ?_)
        show dw_Rf (tw_cz z ((a28.2.2.1 + 1) + 1) ((a28.2.2.2 + 8) + 4)) b _ Y103 _ [(7, .int v96), (6, .int a28.1), (5, .int v26), (4, .ref (b + q21)), (0, .ref (b + 0)), (1, .ref (b + r1)), (2, .ref (b + r2)), (3, .int x3)] [.ref (b + q102), .ref (b + r1), .ref (b + 0)]
        refine e_dup (z := tw_cz z ((a28.2.2.1 + 1) + 1) ((a28.2.2.2 + 8) + 4)) (dw_zX X) dL_randomClue_85 rfl ?_
        refine e_callI (c := ((a28.2.2.1 + 1) + 1)) (s := ((a28.2.2.2 + 8) + 4)) (As := []) (z := tw_cz z ((a28.2.2.1 + 1) + 1) ((a28.2.2.2 + 8) + 4)) (dw_zX X) (dw_zA hA) (dw_zb hb) (dw_zD hD) dw_z0 (dw_zM eMC eMS) dL_randomClue_86 (fun Q h => dw_m_J4_init_da8c8 (dw_zD hD) h) dw_y_J4_init_da8c8 dw_v_J4_init_da8c8 rfl _ dw_w1274 rfl ⟨dw_zf hfr rfl, dw_zl hlo rfl⟩ (Nat.le_of_ble_eq_true rfl) rfl (fun r104 => ?_)
        show dw_Rf (tw_cz z (((a28.2.2.1 + 1) + 1) + 1) (((a28.2.2.2 + 8) + 4) + 16)) b _ r104 _ [(7, .int v96), (6, .int a28.1), (5, .int v26), (4, .ref (b + q21)), (0, .ref (b + 0)), (1, .ref (b + r1)), (2, .ref (b + r2)), (3, .int x3)] [.ref (b + q102), .ref (b + r1), .ref (b + 0)]
        refine e_ldcS (z := tw_cz z (((a28.2.2.1 + 1) + 1) + 1) (((a28.2.2.2 + 8) + 4) + 16)) (dw_zX X) dL_randomClue_89 (j := 24) tw_l_W_127 ?_
        refine e_callV (k := q102) (ci := 17) (Cn := "java/lang/StringBuilder") (T := TJ4) (N := 4) (c := (((a28.2.2.1 + 1) + 1) + 1)) (s := (((a28.2.2.2 + 8) + 4) + 16)) (As := [.ref (tw_zS z 24)]) (z := tw_cz z (((a28.2.2.1 + 1) + 1) + 1) (((a28.2.2.2 + 8) + 4) + 16)) (dw_zX X) (dw_zA hA) (dw_zb hb) (dw_zD hD) dw_z0 (dw_zM eMC eMS) dL_randomClue_91 (fun Q h => dw_m_J4_append_15ec4 (dw_zD hD) (by decide) h) dw_y_J4_append_15ec4 dw_v_J4_append_15ec4 _ dw_w1303 (by decide) rfl (fun h => dw_E17 h) rfl ⟨dw_zf hfr rfl, dw_zl hlo rfl⟩ (Nat.le_of_ble_eq_true rfl) rfl (fun r105 => ?_)
        show dw_Rf (tw_cz z (((a28.2.2.1 + 1) + 1) + 1) (((a28.2.2.2 + 8) + 4) + 16)) b _ r105.2 _ [(7, .int v96), (6, .int a28.1), (5, .int v26), (4, .ref (b + q21)), (0, .ref (b + 0)), (1, .ref (b + r1)), (2, .ref (b + r2)), (3, .int x3)] [.ref (b + r105.1), .ref (b + r1), .ref (b + 0)]
        refine e_bipush (z := tw_cz z (((a28.2.2.1 + 1) + 1) + 1) (((a28.2.2.2 + 8) + 4) + 16)) (dw_zX X) dL_randomClue_94 (v := (97 : Int32)) (by decide) ?_
        refine e_iload (z := tw_cz z (((a28.2.2.1 + 1) + 1) + 1) (((a28.2.2.2 + 8) + 4) + 16)) (dw_zX X) dL_randomClue_96 0 rfl ?_
        refine e_iadd (z := tw_cz z (((a28.2.2.1 + 1) + 1) + 1) (((a28.2.2.2 + 8) + 4) + 16)) (dw_zX X) dL_randomClue_98 ?_
        refine e_i2c (z := tw_cz z (((a28.2.2.1 + 1) + 1) + 1) (((a28.2.2.2 + 8) + 4) + 16)) (dw_zX X) dL_randomClue_99 rfl ?_
        refine e_callV (k := r105.1) (ci := 17) (Cn := "java/lang/StringBuilder") (T := TJ4) (N := 4) (c := (((a28.2.2.1 + 1) + 1) + 1)) (s := (((a28.2.2.2 + 8) + 4) + 16)) (As := [.int ((Int32.toUInt32 ((97 : Int32) + v96) % 65536).toInt32)]) (z := tw_cz z (((a28.2.2.1 + 1) + 1) + 1) (((a28.2.2.2 + 8) + 4) + 16)) (dw_zX X) (dw_zA hA) (dw_zb hb) (dw_zD hD) dw_z0 (dw_zM eMC eMS) dL_randomClue_100 (fun Q h => dw_m_J4_append_cf468 (dw_zD hD) h) dw_y_J4_append_cf468 dw_v_J4_append_cf468 _ dw_w1396 (by decide) rfl (fun h => dw_E17 h) rfl ⟨dw_zf hfr rfl, dw_zl hlo rfl⟩ (Nat.le_of_ble_eq_true rfl) rfl (fun r106 => ?_)
        show dw_Rf (tw_cz z (((a28.2.2.1 + 1) + 1) + 1) (((a28.2.2.2 + 8) + 4) + 16)) b _ r106.2 _ [(7, .int v96), (6, .int a28.1), (5, .int v26), (4, .ref (b + q21)), (0, .ref (b + 0)), (1, .ref (b + r1)), (2, .ref (b + r2)), (3, .int x3)] [.ref (b + r106.1), .ref (b + r1), .ref (b + 0)]
        refine e_callV (k := r106.1) (ci := 17) (Cn := "java/lang/StringBuilder") (T := TJ4) (N := 4) (c := (((a28.2.2.1 + 1) + 1) + 1)) (s := (((a28.2.2.2 + 8) + 4) + 16)) (As := []) (z := tw_cz z (((a28.2.2.1 + 1) + 1) + 1) (((a28.2.2.2 + 8) + 4) + 16)) (dw_zX X) (dw_zA hA) (dw_zb hb) (dw_zD hD) dw_z0 (dw_zM eMC eMS) dL_randomClue_103 (fun Q h => dw_m_J4_toString_0e30d (dw_zD hD) h) dw_y_J4_toString_0e30d dw_v_J4_toString_0e30d _ dw_w1409 (by decide) rfl (fun h => dw_E17 h) rfl ⟨dw_zf hfr rfl, dw_zl hlo rfl⟩ (Nat.le_of_ble_eq_true rfl) rfl (fun r107 => ?_)
        show dw_Rf (tw_cz z ((((a28.2.2.1 + 1) + 1) + 1) + 2) ((((a28.2.2.2 + 8) + 4) + 16) + 36)) b _ r107.2 _ [(7, .int v96), (6, .int a28.1), (5, .int v26), (4, .ref (b + q21)), (0, .ref (b + 0)), (1, .ref (b + r1)), (2, .ref (b + r2)), (3, .int x3)] [.ref (b + r107.1), .ref (b + r1), .ref (b + 0)]
        refine e_callS (c := ((((a28.2.2.1 + 1) + 1) + 1) + 2)) (s := ((((a28.2.2.2 + 8) + 4) + 16) + 36)) (As := [.ref (b + 0), .ref (b + r1), .ref (b + r107.1)]) (z := tw_cz z ((((a28.2.2.1 + 1) + 1) + 1) + 2) ((((a28.2.2.2 + 8) + 4) + 16) + 36)) (dw_zX X) (dw_zA hA) (dw_zb hb) (dw_zD hD) dw_z0 (dw_zM eMC eMS) dL_randomClue_106 (fun Q h => dw_m_L_writed (dw_zD hD) h) dw_y_L_write dw_v_L_write _ dw_w1242 rfl ⟨dw_zf hfr rfl, dw_zl hlo rfl⟩ (Nat.le_of_ble_eq_true rfl) rfl (fun r108 => ?_)
        show dw_Rf (tw_cz z ((((a28.2.2.1 + 1) + 1) + 1) + 2) ((((a28.2.2.2 + 8) + 4) + 16) + 36)) b _ r108 _ [(7, .int v96), (6, .int a28.1), (5, .int v26), (4, .ref (b + q21)), (0, .ref (b + 0)), (1, .ref (b + r1)), (2, .ref (b + r2)), (3, .int x3)] []
        refine e_iinc (z := tw_cz z ((((a28.2.2.1 + 1) + 1) + 1) + 2) ((((a28.2.2.2 + 8) + 4) + 16) + 36)) (dw_zX X) dL_randomClue_109 1 rfl (v := (1 : Int32)) (by decide) (by decide) (LL := fun v109 => [(6, .int v109), (7, .int v96), (5, .int v26), (4, .ref (b + q21)), (0, .ref (b + 0)), (1, .ref (b + r1)), (2, .ref (b + r2)), (3, .int x3)]) (fun _ => rfl) (fun v109 => ?_)
        refine e_goto (z := tw_cz z ((((a28.2.2.1 + 1) + 1) + 1) + 2) ((((a28.2.2.2 + 8) + 4) + 16) + 36)) (dw_zX X) dL_randomClue_112 (tgt := 26) (by decide) ?_
        exact dw_Rf.sub [0, 2, 3, 4, 5, 6, 7] rfl (hk29 (v109, r108, ((((a28.2.2.1 + 1) + 1) + 1) + 2), ((((a28.2.2.2 + 8) + 4) + 16) + 36)))
      refine e_if_le (z := tw_cz z (a28.2.2.1 + 1) (a28.2.2.2 + 8)) (dw_zX X) dL_randomClue_70 (tgt := 80) (by decide) ?_ ?_
      ·
        exact hj101 Y99
      ·
        refine e_aload_n (z := tw_cz z (a28.2.2.1 + 1) (a28.2.2.2 + 8)) (dw_zX X) dL_randomClue_73 rfl 4 rfl ?_
        refine e_aload_n (z := tw_cz z (a28.2.2.1 + 1) (a28.2.2.2 + 8)) (dw_zX X) dL_randomClue_74 rfl 5 rfl ?_
        refine e_ldcS (z := tw_cz z (a28.2.2.1 + 1) (a28.2.2.2 + 8)) (dw_zX X) dL_randomClue_75 (j := 23) tw_l_W_122 ?_
        refine e_callS (c := (a28.2.2.1 + 1)) (s := (a28.2.2.2 + 8)) (As := [.ref (b + 0), .ref (b + r1), .ref (tw_zS z 23)]) (z := tw_cz z (a28.2.2.1 + 1) (a28.2.2.2 + 8)) (dw_zX X) (dw_zA hA) (dw_zb hb) (dw_zD hD) dw_z0 (dw_zM eMC eMS) dL_randomClue_77 (fun Q h => dw_m_L_write (dw_zD hD) (by decide) h) dw_y_L_write dw_v_L_write _ dw_w1242 rfl ⟨dw_zf hfr rfl, dw_zl hlo rfl⟩ (Nat.le_of_ble_eq_true rfl) rfl (fun r110 => ?_)
        show dw_Rf (tw_cz z (a28.2.2.1 + 1) (a28.2.2.2 + 8)) b _ r110 _ [(7, .int v96), (6, .int a28.1), (5, .int v26), (4, .ref (b + q21)), (0, .ref (b + 0)), (1, .ref (b + r1)), (2, .ref (b + r2)), (3, .int x3)] []
        exact hj101 r110
