def dw_rc : Nat := room_1.cells
def dw_rs : Nat := room_1.slots
theorem dw_w453 : lw_tbl[453]? = some ((Jvm.Cond.methodLink "TreasureWalkLaw" (276 : Nat) ({ cls := "TreasureWalk", name := "errorOffset", desc := "()I" } : Jvm.MethodName))) := by decide +kernel
theorem dw_w457 : lw_tbl[457]? = some ((Jvm.Cond.methodLink "TreasureWalkLaw" (291 : Nat) ({ cls := "TreasureWalk", name := "dig", desc := "()I" } : Jvm.MethodName))) := by decide +kernel
theorem dw_w500 : lw_tbl[500]? = some ((Jvm.Cond.methodLink "TreasureWalkLaw" (279 : Nat) ({ cls := "TreasureWalk", name := "undo", desc := "()I" } : Jvm.MethodName))) := by decide +kernel
theorem dw_w607 : lw_tbl[607]? = some ((Jvm.Cond.fieldLink "TreasureWalkLaw" (306 : Nat) "TreasureWalkLaw$Island" "paces" "I")) := by decide +kernel
theorem dw_w642 : lw_tbl[642]? = some ((Jvm.Cond.methodLink "TreasureWalkLaw" (298 : Nat) ({ cls := "TreasureWalkLaw$Island", name := "copy", desc := "()LTreasureWalkLaw$Island;" } : Jvm.MethodName))) := by decide +kernel
theorem dw_w674 : lw_tbl[674]? = some ((Jvm.Cond.fieldLink "TreasureWalkLaw" (312 : Nat) "TreasureWalkLaw$Clue" "isUsed" "Z")) := by decide +kernel
theorem dw_w716 : lw_tbl[716]? = some ((Jvm.Cond.methodLink "TreasureWalkLaw" (316 : Nat) ({ cls := "TreasureWalkLaw$Island", name := "many", desc := "([Z)I" } : Jvm.MethodName))) := by decide +kernel
theorem dw_w719 : lw_tbl[719]? = some ((Jvm.Cond.methodLink "TreasureWalkLaw" (302 : Nat) ({ cls := "TreasureWalkLaw$Island", name := "far", desc := "(I[Z)[I" } : Jvm.MethodName))) := by decide +kernel
theorem dw_w723 : lw_tbl[723]? = some ((Jvm.Cond.methodLink "TreasureWalkLaw" (309 : Nat) ({ cls := "TreasureWalkLaw$Island", name := "digs", desc := "()I" } : Jvm.MethodName))) := by decide +kernel
theorem dw_w727 : lw_tbl[727]? = some ((Jvm.Cond.methodLink "TreasureWalkLaw" (319 : Nat) ({ cls := "TreasureWalkLaw$Island", name := "hides", desc := "(I)I" } : Jvm.MethodName))) := by decide +kernel
theorem dw_w733 : lw_tbl[733]? = some ((Jvm.Cond.classLink "TreasureWalkLaw" (111 : Nat) "TreasureWalkLaw$Random")) := by decide +kernel
theorem dw_w734 : lw_tbl[734]? = some ((Jvm.Cond.instantiable "TreasureWalkLaw$Random" (1 : Nat))) := by decide +kernel
theorem dw_w735 : lw_tbl[735]? = some ((Jvm.Cond.methodLink "TreasureWalkLaw" (269 : Nat) ({ cls := "TreasureWalkLaw$Random", name := "<init>", desc := "(I)V" } : Jvm.MethodName))) := by decide +kernel
theorem dw_w736 : lw_tbl[736]? = some ((Jvm.Cond.instanceMethod ({ cls := "TreasureWalkLaw$Random", name := "<init>", desc := "(I)V" } : Jvm.MethodName))) := by decide +kernel
set_option maxRecDepth 100000 in
theorem dw_w737 : lw_tbl[737]? = some ((Jvm.Cond.code ({ cls := "TreasureWalkLaw$Random", name := "<init>", desc := "(I)V" } : Jvm.MethodName) prog_17_method_1_code (2 : Nat) (Option.none : Option Jvm.ClassFile.FieldType))) := rfl
theorem dw_w738 : lw_tbl[738]? = some ((Jvm.Cond.methodLink "TreasureWalkLaw$Random" (1 : Nat) ({ cls := "java/lang/Object", name := "<init>", desc := "()V" } : Jvm.MethodName))) := by decide +kernel
theorem dw_w1034 : lw_tbl[1034]? = some ((Jvm.Cond.methodLink "TreasureWalkLaw" (322 : Nat) ({ cls := "TreasureWalkLaw", name := "pace", desc := "(LTreasureWalk;III)I" } : Jvm.MethodName))) := by decide +kernel
theorem dw_w1071 : lw_tbl[1071]? = some ((Jvm.Cond.methodLink "TreasureWalkLaw" (325 : Nat) ({ cls := "TreasureWalkLaw", name := "walk", desc := "(LTreasureWalk;IIII)I" } : Jvm.MethodName))) := by decide +kernel
theorem dw_w1127 : lw_tbl[1127]? = some ((Jvm.Cond.methodLink "TreasureWalkLaw" (328 : Nat) ({ cls := "TreasureWalkLaw", name := "starts", desc := "(LTreasureWalk;III)I" } : Jvm.MethodName))) := by decide +kernel
theorem dw_w1138 : lw_tbl[1138]? = some ((Jvm.Cond.methodLink "TreasureWalkLaw" (332 : Nat) ({ cls := "TreasureWalkLaw", name := "distance", desc := "(LTreasureWalk;II)I" } : Jvm.MethodName))) := by decide +kernel
theorem dw_w1166 : lw_tbl[1166]? = some ((Jvm.Cond.methodLink "TreasureWalkLaw" (330 : Nat) ({ cls := "TreasureWalkLaw", name := "part", desc := "(LTreasureWalk;II)I" } : Jvm.MethodName))) := by decide +kernel
theorem dw_w1200 : lw_tbl[1200]? = some ((Jvm.Cond.methodLink "TreasureWalkLaw" (289 : Nat) ({ cls := "TreasureWalkLaw", name := "moveTo", desc := "(LTreasureWalk;II)I" } : Jvm.MethodName))) := by decide +kernel
theorem dw_w1207 : lw_tbl[1207]? = some ((Jvm.Cond.methodLink "TreasureWalkLaw" (284 : Nat) ({ cls := "TreasureWalkLaw", name := "use", desc := "(LTreasureWalk;IZ)I" } : Jvm.MethodName))) := by decide +kernel
theorem dw_w1217 : lw_tbl[1217]? = some ((Jvm.Cond.methodLink "TreasureWalkLaw" (287 : Nat) ({ cls := "TreasureWalkLaw", name := "hide", desc := "(LTreasureWalk;I)I" } : Jvm.MethodName))) := by decide +kernel
theorem dw_w1226 : lw_tbl[1226]? = some ((Jvm.Cond.methodLink "TreasureWalkLaw" (282 : Nat) ({ cls := "TreasureWalkLaw", name := "turn", desc := "(LTreasureWalk;II)I" } : Jvm.MethodName))) := by decide +kernel
theorem dw_w1235 : lw_tbl[1235]? = some ((Jvm.Cond.methodLink "TreasureWalkLaw" (294 : Nat) ({ cls := "TreasureWalkLaw", name := "randomIsland", desc := "(LTreasureWalk;[ILTreasureWalkLaw$Random;)LTreasureWalkLaw$Island;" } : Jvm.MethodName))) := by decide +kernel
theorem dw_w1542 : lw_tbl[1542]? = some ((Jvm.Cond.methodLink "TreasureWalkLaw" (272 : Nat) ({ cls := "TreasureWalkLaw", name := "agrees", desc := "(LTreasureWalk;LTreasureWalkLaw$Island;)Z" } : Jvm.MethodName))) := by decide +kernel
def dw_P_X15_init (th : Nat) (x0 : Int32) (Y : dw_S) (Q : dw_S → Prop) : Prop :=
pw_ck (dw_is Y th 15) (pw_lt (dw_pi Y th 0 x0) (fun (Y1 : dw_S) =>
Q Y1))
theorem dw_y_X15_init : tw_My yX15_init cX15_init 2 none 1 := ⟨List.mem_of_getElem? dw_w737, List.mem_of_getElem? dw_w49, by decide +kernel, by decide +kernel, by decide +kernel⟩
theorem dw_v_X15_init : Cond.instanceMethod yX15_init ∈ lw_tbl := List.mem_of_getElem? dw_w736
set_option maxRecDepth 100000 in
set_option maxHeartbeats 4000000 in
theorem dw_m_X15_init {l : Launch} {b : Nat} {D : tw_G} {C : Nat → ClassId} {S : Nat → Nat} (hD : D.2 = []) {th : Nat} {x0 : Int32} {Y : dw_S} {Q : dw_S → Prop}  (h : dw_P_X15_init th x0 Y Q) : dw_Met l b D C S yX15_init cX15_init 2 none ({ frames := 1, cells := 0, slots := 0, locals := 20 } : Room) [.ref (b + th), .int x0] Y (fun _ => none) (fun r => r) Q := by
  refine dw_metOf (dw_P_X15_init th x0 Y Q) h _ _ Q (by decide +kernel) (Nat.le_of_ble_eq_true rfl) ?_
  intro z el eB eD eC eS eR X hA hnm hret hQ
  subst el eD eC eS
  have hb : tw_zB z ≤ b := Nat.le_of_eq eB
  have hA : dw_AK (tw_zB z) (tw_zS z) (tw_zs z) := by rw [eB]; exact hA
  have hfr : (tw_zR z).frames = 1 := by rw [eR]
  have hlo : (tw_zR z).locals = 20 := by rw [eR]
  have eMC : (tw_zR z).cells = 0 := by rw [eR]
  have eMS : (tw_zR z).slots = 0 := by rw [eR]
  have X : tw_X z cX15_init "TreasureWalkLaw$Random" 2 := X
  show dw_Rf (tw_cz z 0 0) b _ Y 0 [(0, .ref (b + th)), (1, .int x0)] []
  unfold dw_P_X15_init
  refine e_aload_n (z := tw_cz z 0 0) (dw_zX X) dX15_init_0 rfl 0 rfl ?_
  refine e_obj (z := tw_cz z 0 0) (dw_zX X) dX15_init_1 _ dw_w738 (List.mem_of_getElem? dw_w76) (List.mem_of_getElem? dw_w77) (tw_le hfr rfl) (tw_le hlo rfl) (Nat.le_of_ble_eq_true rfl) ?_
  refine e_aload_n (z := tw_cz z 0 0) (dw_zX X) dX15_init_4 rfl 0 rfl ?_
  refine e_iload_n (z := tw_cz z 0 0) (dw_zX X) dX15_init_5 rfl 1 rfl ?_
  show dw_Rf (tw_cz z 0 0) b _ Y _ [(0, .ref (b + th)), (1, .int x0)] (.int x0 :: .ref (b + th) :: [])
  refine e_put (ci := 15) (T := TX15) (f := 0) (ty := .int) (k := th) (z := tw_cz z 0 0) (dw_zX X) (dw_zb hb) dX15_init_6 (Or.inl ⟨_, dw_w739⟩) dw_in15 tyX15 tyX15_ok nmX15 rfl (by decide) rfl (by decide +kernel) rfl rfl (by decide) (fun h => dw_F15 h) (Nat.le_of_ble_eq_true rfl) (fun h => dw_p15_0 h) rfl rfl rfl (fun a ha => dw_E_pi ha) (fun Y1 => ?_)
  exact dw_ckp (by exact ⟨Nat.le_of_ble_eq_true rfl, Nat.le_of_ble_eq_true rfl⟩) (e_vret (z := z) X eB dX15_init_9 hret ⟨eMC, eMS⟩ hQ rfl rfl)
theorem e_sld {z : tw_Z} {b : Nat} {cc : ByteArray} {own : String} {nL pc : Nat} {E : Prop} {Y : dw_S} {L : List (Nat × Value)} {st : List Value} {bs Ln : Nat} {xs : Nat → Int32} {i : Int32} (X : tw_X z cc own nL) (hX : va_X bs Ln xs (tw_zs z) (tw_zs z).heap) (hbl : bs < (tw_zs z).heap.size) (hbB : bs < tw_zB z) (d : decode cc pc = .ok (.iaload, 1)) (kk : dw_Rf z b E Y (pc + 1) L (.int (xs i.toNatClampNeg) :: st)) : dw_Rf z b (pw_ck (tw_ok i Ln = true) E) Y pc L (.int i :: .ref bs :: st) :=
  e_ck (fun hc => fun hE H locs ls hP hS hl => va_sld X.1 X.2.1 hX hbl (Nat.not_le.mpr hbB) hS (tw_ok_in hc) d (kk hE H locs ls hP hS hl))
theorem e_slen {z : tw_Z} {b : Nat} {cc : ByteArray} {own : String} {nL pc : Nat} {E : Prop} {Y : dw_S} {L : List (Nat × Value)} {st : List Value} {bs Ln : Nat} {xs : Nat → Int32} (X : tw_X z cc own nL) (hX : va_X bs Ln xs (tw_zs z) (tw_zs z).heap) (hbl : bs < (tw_zs z).heap.size) (hbB : bs < tw_zB z) (d : decode cc pc = .ok (.arraylength, 1)) (kk : dw_Rf z b E Y (pc + 1) L (.int (Int32.ofNat Ln) :: st)) : dw_Rf z b E Y pc L (.ref bs :: st) :=
  fun hE H locs ls hP hS hl => va_slen X.1 X.2.1 hX hbl (Nat.not_le.mpr hbB) hS d (kk hE H locs ls hP hS hl)
def dw_P_L_lawB (n Ln : Nat) (xs : Nat → Int32) (x1 x2 : Int32) (c0 s0 : Nat) (Y : dw_S) (j4 : (Int32 × Int32 × dw_S × Nat × Nat) → Prop) : Prop :=
pw_ck ((¬ (8 : Int32) < 0 ∧ (Int32.toNatClampNeg (8 : Int32)) ≤ 10000) ∧ (c0 + 1) ≤ dw_rc ∧ (s0 + (Int32.toNatClampNeg (8 : Int32))) ≤ dw_rs) (
pw_al (dw_n Y) (fun (q21 : Nat) => pw_lt (dw_nw Y q21 20 (Int32.toNatClampNeg (8 : Int32)) (fun _ => 0) (fun _ => none)) (fun (Y22 : dw_S) =>
pw_ck (((c0 + 1) + 1) ≤ dw_rc ∧ ((s0 + (Int32.toNatClampNeg (8 : Int32))) + 1) ≤ dw_rs) (
pw_al (dw_n Y22) (fun (q23 : Nat) => pw_lt (dw_nw Y22 q23 15 0 (fun _ => 0) (fun _ => none)) (fun (Y24 : dw_S) =>
pw_ck (tw_ok x2 Ln = true) (
pw_ck (((c0 + 1) + 1) ≤ dw_rc ∧ ((s0 + (Int32.toNatClampNeg (8 : Int32))) + 1) ≤ dw_rs) (
dw_P_X15_init q23 (xs (Int32.toNatClampNeg x2)) Y24 (fun (r25 : dw_S) =>
pw_ck ((((c0 + 1) + 1) + 1) ≤ dw_rc ∧ (((s0 + (Int32.toNatClampNeg (8 : Int32))) + 1) + 13) ≤ dw_rs) (
pw_al (dw_n r25) (fun (q26 : Nat) => pw_lt (dw_nw r25 q26 13 0 (fun _ => 0) (fun _ => none)) (fun (Y27 : dw_S) =>
pw_ck (((((c0 + 1) + 1) + 1) + 6) ≤ dw_rc ∧ ((((s0 + (Int32.toNatClampNeg (8 : Int32))) + 1) + 13) + 19) ≤ dw_rs) (
dw_P_X13_init q26 Y27 (fun (r28 : dw_S) =>
pw_ck ((((((c0 + 1) + 1) + 1) + 6) + 1457) ≤ dw_rc ∧ (((((s0 + (Int32.toNatClampNeg (8 : Int32))) + 1) + 13) + 19) + 117018) ≤ dw_rs) (
dw_P_L_agrees n q26 r28 (fun (r29 : Int32 × dw_S) =>
tw_jn (fun (a30 : Int32 × dw_S × Nat × Nat) =>
pw_lt a30.1 (fun (v32 : Int32) =>
pw_ck ((a30.2.2.1 + 300) ≤ dw_rc ∧ (a30.2.2.2 + 2600) ≤ dw_rs) (
dw_P_L_randomIsland n q21 q23 a30.2.1 (fun (r33 : Option Nat × dw_S) =>
pw_mt r33.1 (False) (fun (r34 : Nat) =>
tw_jn (fun (a35 : Int32 × dw_S × Nat × Nat) =>
pw_lt a35.1 (fun (v37 : Int32) =>
pw_ck ((¬ (9 : Int32) < 0 ∧ (Int32.toNatClampNeg (9 : Int32)) ≤ 10000) ∧ (a35.2.2.1 + 1) ≤ dw_rc ∧ (a35.2.2.2 + (Int32.toNatClampNeg (9 : Int32))) ≤ dw_rs) (
pw_al (dw_n a35.2.1) (fun (q38 : Nat) => pw_lt (dw_nw a35.2.1 q38 25 (Int32.toNatClampNeg (9 : Int32)) (fun _ => 0) (fun _ => none)) (fun (Y39 : dw_S) =>
pw_lt (0 : Int32) (fun (v40 : Int32) =>
pw_lt (0 : Int32) (fun (v41 : Int32) =>
pw_lp (fun (k43 : (Int32 × Int32 × Int32 × dw_S × Nat × Nat) → Prop) (a42 : Int32 × Int32 × Int32 × dw_S × Nat × Nat) =>
tw_jn (fun (a44 : Unit) =>
pw_lt (0 : Int32) (fun (v46 : Int32) =>
pw_lp (fun (k48 : (Int32 × Int32 × Int32 × dw_S × Nat × Nat) → Prop) (a47 : Int32 × Int32 × Int32 × dw_S × Nat × Nat) =>
tw_jn (fun (a49 : Unit) =>
tw_jn (fun (a51 : Int32 × dw_S × Nat × Nat) =>
pw_lt a51.1 (fun (v53 : Int32) =>
pw_lt (x2 + (1 : Int32)) (fun (v54 : Int32) =>
j4 (v53, v54, a51.2.1, a51.2.2.1, a51.2.2.2)))) (fun (j52 : (Int32 × dw_S × Nat × Nat) → Prop) =>
tw_jn (fun (a55 : dw_S × Nat × Nat) =>
j52 ((0 : Int32), a55.1, a55.2.1, a55.2.2)) (fun (j56 : (dw_S × Nat × Nat) → Prop) =>
if a47.1 = 0 then (j56 (a47.2.2.2.1, a47.2.2.2.2.1, a47.2.2.2.2.2))
else (pw_ck ((a47.2.2.2.2.1 + 1) ≤ dw_rc ∧ (a47.2.2.2.2.2 + 6) ≤ dw_rs) (
dw_P_L_load n (1 : Int32) a47.2.2.2.1 (fun (r57 : Int32 × dw_S) =>
if ¬ r57.1 = (-2000000098 : Int32) then (j56 (r57.2, (a47.2.2.2.2.1 + 1), (a47.2.2.2.2.2 + 6)))
else (pw_ck (((a47.2.2.2.2.1 + 1) + 1) ≤ dw_rc ∧ ((a47.2.2.2.2.2 + 6) + 6) ≤ dw_rs) (
dw_P_L_pace n (0 : Int32) (0 : Int32) (8 : Int32) r57.2 (fun (r58 : Int32 × dw_S) =>
if ¬ r58.1 = (-2000000098 : Int32) then (j56 (r58.2, ((a47.2.2.2.2.1 + 1) + 1), ((a47.2.2.2.2.2 + 6) + 6)))
else (pw_ck ((((a47.2.2.2.2.1 + 1) + 1) + 1) ≤ dw_rc ∧ (((a47.2.2.2.2.2 + 6) + 6) + 6) ≤ dw_rs) (
dw_P_L_pace n (-1 : Int32) (0 : Int32) (0 : Int32) r58.2 (fun (r59 : Int32 × dw_S) =>
if ¬ r59.1 = (-2000000097 : Int32) then (j56 (r59.2, (((a47.2.2.2.2.1 + 1) + 1) + 1), (((a47.2.2.2.2.2 + 6) + 6) + 6)))
else (pw_ck (((((a47.2.2.2.2.1 + 1) + 1) + 1) + 1) ≤ dw_rc ∧ ((((a47.2.2.2.2.2 + 6) + 6) + 6) + 6) ≤ dw_rs) (
dw_P_L_walk n (4 : Int32) (0 : Int32) (0 : Int32) (0 : Int32) r59.2 (fun (r60 : Int32 × dw_S) =>
if ¬ r60.1 = (-2000000097 : Int32) then (j56 (r60.2, ((((a47.2.2.2.2.1 + 1) + 1) + 1) + 1), ((((a47.2.2.2.2.2 + 6) + 6) + 6) + 6)))
else (pw_ck ((((((a47.2.2.2.2.1 + 1) + 1) + 1) + 1) + 1) ≤ dw_rc ∧ (((((a47.2.2.2.2.2 + 6) + 6) + 6) + 6) + 6) ≤ dw_rs) (
dw_P_L_starts n (-1 : Int32) (0 : Int32) (0 : Int32) r60.2 (fun (r61 : Int32 × dw_S) =>
if ¬ r61.1 = (-2000000097 : Int32) then (j56 (r61.2, (((((a47.2.2.2.2.1 + 1) + 1) + 1) + 1) + 1), (((((a47.2.2.2.2.2 + 6) + 6) + 6) + 6) + 6)))
else (pw_ck (((((((a47.2.2.2.2.1 + 1) + 1) + 1) + 1) + 1) + 1) ≤ dw_rc ∧ ((((((a47.2.2.2.2.2 + 6) + 6) + 6) + 6) + 6) + 6) ≤ dw_rs) (
dw_P_L_part n (0 : Int32) (20 : Int32) r61.2 (fun (r62 : Int32 × dw_S) =>
if ¬ r62.1 = (-2000000097 : Int32) then (j56 (r62.2, ((((((a47.2.2.2.2.1 + 1) + 1) + 1) + 1) + 1) + 1), ((((((a47.2.2.2.2.2 + 6) + 6) + 6) + 6) + 6) + 6)))
else (pw_ck ((((((((a47.2.2.2.2.1 + 1) + 1) + 1) + 1) + 1) + 1) + 1) ≤ dw_rc ∧ (((((((a47.2.2.2.2.2 + 6) + 6) + 6) + 6) + 6) + 6) + 6) ≤ dw_rs) (
dw_P_L_distance n (20 : Int32) (0 : Int32) r62.2 (fun (r63 : Int32 × dw_S) =>
if ¬ r63.1 = (-2000000097 : Int32) then (j56 (r63.2, (((((((a47.2.2.2.2.1 + 1) + 1) + 1) + 1) + 1) + 1) + 1), (((((((a47.2.2.2.2.2 + 6) + 6) + 6) + 6) + 6) + 6) + 6)))
else (j52 ((1 : Int32), r63.2, (((((((a47.2.2.2.2.1 + 1) + 1) + 1) + 1) + 1) + 1) + 1), (((((((a47.2.2.2.2.2 + 6) + 6) + 6) + 6) + 6) + 6) + 6))))))))))))))))))))))))))) (fun (j50 : (Unit) → Prop) =>
if (8 : Int32) ≤ a47.2.2.1 then (j50 ())
else (if a47.2.1 ≤ a47.2.2.1 then (j50 ())
else (if a47.1 = 0 then (j50 ())
else (pw_ck (a47.2.2.2.2.1 ≤ dw_rc ∧ a47.2.2.2.2.2 ≤ dw_rs) (
pw_bd (tw_P_X11_undo n (dw_s a47.2.2.2.1)) (fun r64 =>
tw_jn (fun (a65 : Int32 × dw_S × Nat × Nat) =>
pw_lt a65.1 (fun (v67 : Int32) =>
pw_lt (a47.2.2.1 + (1 : Int32)) (fun (v68 : Int32) =>
k48 (v67, a47.2.1, v68, a65.2.1, a65.2.2.1, a65.2.2.2)))) (fun (j66 : (Int32 × dw_S × Nat × Nat) → Prop) =>
tw_jn (fun (a69 : dw_S × Nat × Nat) =>
j66 ((0 : Int32), a69.1, a69.2.1, a69.2.2)) (fun (j70 : (dw_S × Nat × Nat) → Prop) =>
if r64.1 < 0 then (j70 ((dw_cs a47.2.2.2.1 r64.2), a47.2.2.2.2.1, a47.2.2.2.2.2))
else (pw_ck (dw_is (dw_cs a47.2.2.2.1 r64.2) q38 25 ∧ tw_ok a47.2.2.1 (dw_l (dw_cs a47.2.2.2.1 r64.2) q38) = true) (
pw_nn (dw_r (dw_cs a47.2.2.2.1 r64.2) q38 (Int32.toNatClampNeg a47.2.2.1)) (fun (r71 : Nat) =>
pw_ck ((a47.2.2.2.2.1 + 1457) ≤ dw_rc ∧ (a47.2.2.2.2.2 + 117018) ≤ dw_rs) (
dw_P_L_agrees n r71 (dw_cs a47.2.2.2.1 r64.2) (fun (r72 : Int32 × dw_S) =>
if r72.1 = 0 then (j70 (r72.2, (a47.2.2.2.2.1 + 1457), (a47.2.2.2.2.2 + 117018)))
else (j66 ((1 : Int32), r72.2, (a47.2.2.2.2.1 + 1457), (a47.2.2.2.2.2 + 117018))))))))))))))))) n (a42.1, a42.2.1, v46, a42.2.2.2.1, a42.2.2.2.2.1, a42.2.2.2.2.2))) (fun (j45 : (Unit) → Prop) =>
if (14 : Int32) ≤ a42.2.2.1 then (j45 ())
else (if a42.1 = 0 then (j45 ())
else (pw_ck (dw_is a42.2.2.2.1 r34 13 ∧ (a42.2.2.2.2.1 + 21) ≤ dw_rc ∧ (a42.2.2.2.2.2 + 86) ≤ dw_rs) (
dw_P_X13_copy n r34 a42.2.2.2.1 (fun (r73 : Nat × dw_S) =>
pw_lt (1 : Int32) (fun (v74 : Int32) =>
pw_ck (dw_is r73.2 r34 13) (
pw_ck (dw_is r73.2 r34 13) (
pw_lt ((dw_i r73.2 r34 0) * (dw_i r73.2 r34 1)) (fun (v75 : Int32) =>
pw_ck (dw_is r73.2 q23 15 ∧ (a42.2.2.2.2.1 + 21) ≤ dw_rc ∧ (a42.2.2.2.2.2 + 86) ≤ dw_rs) (
dw_P_X15_below q23 (6 : Int32) r73.2 (fun (r76 : Int32 × dw_S) =>
tw_jn (fun (a77 : Int32 × Int32 × dw_S × Nat × Nat) =>
tw_jn (fun (a79 : Int32 × Int32 × dw_S) =>
tw_jn (fun (a81 : Int32 × dw_S × Nat × Nat) =>
pw_lt a81.1 (fun (v83 : Int32) =>
pw_lt (a79.2.1 + (1 : Int32)) (fun (v84 : Int32) =>
k43 (v83, a79.1, v84, a81.2.1, a81.2.2.1, a81.2.2.2)))) (fun (j82 : (Int32 × dw_S × Nat × Nat) → Prop) =>
tw_jn (fun (a85 : dw_S × Nat × Nat) =>
j82 ((0 : Int32), a85.1, a85.2.1, a85.2.2)) (fun (j86 : (dw_S × Nat × Nat) → Prop) =>
if a77.1 = 0 then (j86 (a79.2.2, a77.2.2.2.1, a77.2.2.2.2))
else (pw_ck ((a77.2.2.2.1 + 1457) ≤ dw_rc ∧ (a77.2.2.2.2 + 117018) ≤ dw_rs) (
dw_P_L_agrees n r34 a79.2.2 (fun (r87 : Int32 × dw_S) =>
if r87.1 = 0 then (j86 (r87.2, (a77.2.2.2.1 + 1457), (a77.2.2.2.2 + 117018)))
else (j82 ((1 : Int32), r87.2, (a77.2.2.2.1 + 1457), (a77.2.2.2.2 + 117018))))))))) (fun (j80 : (Int32 × Int32 × dw_S) → Prop) =>
if a77.2.1 = 0 then (j80 (a42.2.1, a42.2.2.1, a77.2.2.1))
else (pw_lt (8 : Int32) (fun (v88 : Int32) =>
pw_lp (fun (k90 : (Int32 × Int32 × Int32 × dw_S) → Prop) (a89 : Int32 × Int32 × Int32 × dw_S) =>
if a89.2.2.1 ≤ 0 then (pw_ck (dw_is a89.2.2.2 q38 25 ∧ tw_ok (0 : Int32) (dw_l a89.2.2.2 q38) = true ∧ ∀ v, (some r73.1) = some v → dw_is a89.2.2.2 v 13) (pw_lt (dw_pr a89.2.2.2 q38 (Int32.toNatClampNeg (0 : Int32)) (some r73.1)) (fun (Y91 : dw_S) =>
pw_lt (a89.1 + (1 : Int32)) (fun (v92 : Int32) =>
j80 (v92, a89.2.1, Y91)))))
else (pw_ck (dw_is a89.2.2.2 q38 25 ∧ tw_ok (a89.2.2.1 - (1 : Int32)) (dw_l a89.2.2.2 q38) = true) (
pw_ck (dw_is a89.2.2.2 q38 25 ∧ tw_ok a89.2.2.1 (dw_l a89.2.2.2 q38) = true ∧ ∀ v, (dw_r a89.2.2.2 q38 (Int32.toNatClampNeg (a89.2.2.1 - (1 : Int32)))) = some v → dw_is a89.2.2.2 v 13) (pw_lt (dw_pr a89.2.2.2 q38 (Int32.toNatClampNeg a89.2.2.1) (dw_r a89.2.2.2 q38 (Int32.toNatClampNeg (a89.2.2.1 - (1 : Int32))))) (fun (Y93 : dw_S) =>
pw_lt (a89.2.2.1 + (-1 : Int32)) (fun (v94 : Int32) =>
k90 (a89.1, a89.2.1, v94, Y93))))))) n (a42.2.1, a42.2.2.1, v88, a77.2.2.1))))) (fun (j78 : (Int32 × Int32 × dw_S × Nat × Nat) → Prop) =>
tw_jn (fun (a95 : Unit) =>
pw_ck (dw_is r76.2 q23 15 ∧ (a42.2.2.2.2.1 + 21) ≤ dw_rc ∧ (a42.2.2.2.2.2 + 86) ≤ dw_rs) (
dw_P_X15_below q23 v75 r76.2 (fun (r97 : Int32 × dw_S) =>
pw_lt r97.1 (fun (v98 : Int32) =>
pw_ck (dw_is r97.2 r34 13) (
pw_ck (dw_is r97.2 r34 13 ∧ ((a42.2.2.2.2.1 + 21) + 1) ≤ dw_rc ∧ ((a42.2.2.2.2.2 + 86) + 30) ≤ dw_rs) (
dw_P_X13_far n r34 (dw_i r97.2 r34 7) none r97.2 (fun (r99 : Nat × dw_S) =>
pw_ck (dw_is r99.2 r99.1 20 ∧ tw_ok v98 (dw_l r99.2 r99.1) = true) (
pw_lt (dw_i r99.2 r99.1 (Int32.toNatClampNeg v98)) (fun (v100 : Int32) =>
tw_jn (fun (a101 : Int32) =>
pw_lt a101 (fun (v103 : Int32) =>
tw_jn (fun (a104 : dw_S) =>
pw_ck (dw_is a104 r34 13) (
pw_ck (¬ (dw_i a104 r34 0) = 0) (
pw_ck (dw_is a104 r34 13) (
pw_ck (¬ (dw_i a104 r34 0) = 0) (
pw_ck ((((a42.2.2.2.2.1 + 21) + 1) + 1) ≤ dw_rc ∧ (((a42.2.2.2.2.2 + 86) + 30) + 6) ≤ dw_rs) (
dw_P_L_moveTo n (v98 - v98 / (dw_i a104 r34 0) * (dw_i a104 r34 0)) (v98 / (dw_i a104 r34 0)) a104 (fun (r106 : Int32 × dw_S) =>
tw_jn (fun (a107 : Int32) =>
tw_jn (fun (a109 : Int32) =>
pw_lt a109 (fun (v111 : Int32) =>
j78 (v111, v103, r106.2, (((a42.2.2.2.2.1 + 21) + 1) + 1), (((a42.2.2.2.2.2 + 86) + 30) + 6)))) (fun (j110 : (Int32) → Prop) =>
if ¬ r106.1 = a107 then (j110 (0 : Int32))
else (j110 (1 : Int32)))) (fun (j108 : (Int32) → Prop) =>
if v103 = 0 then (j108 (-1 : Int32))
else (j108 v100))))))))) (fun (j105 : (dw_S) → Prop) =>
if v103 = 0 then (j105 r99.2)
else (pw_ck (dw_is r99.2 r34 13) (pw_lt (dw_pi r99.2 r34 7 v98) (fun (Y112 : dw_S) =>
pw_ck (dw_is Y112 r34 13) (
pw_ck (dw_is Y112 r34 13) (pw_lt (dw_pi Y112 r34 8 ((dw_i Y112 r34 8) + v100)) (fun (Y113 : dw_S) =>
j105 Y113))))))))) (fun (j102 : (Int32) → Prop) =>
if (9999 : Int32) ≤ v100 then (j102 (0 : Int32))
else (j102 (1 : Int32)))))))))))) (fun (j96 : (Unit) → Prop) =>
if r76.1 = (0 : Int32) then (j96 ())
else (if r76.1 = (1 : Int32) then (j96 ())
else (if r76.1 = (2 : Int32) then (pw_ck ((a42.2.2.2.2.1 + 21) ≤ dw_rc ∧ (a42.2.2.2.2.2 + 86) ≤ dw_rs) (
pw_bd (tw_P_X11_dig (dw_s r76.2)) (fun r117 =>
pw_ck (dw_is (dw_cs r76.2 r117.2) r34 13 ∧ (a42.2.2.2.2.1 + 21) ≤ dw_rc ∧ (a42.2.2.2.2.2 + 86) ≤ dw_rs) (
dw_P_X13_digs r34 (dw_cs r76.2 r117.2) (fun (r118 : Int32 × dw_S) =>
tw_jn (fun (a119 : Int32) =>
pw_lt a119 (fun (v121 : Int32) =>
j78 (v121, v74, r118.2, (a42.2.2.2.2.1 + 21), (a42.2.2.2.2.2 + 86)))) (fun (j120 : (Int32) → Prop) =>
if ¬ r117.1 = r118.1 then (j120 (0 : Int32))
else (j120 (1 : Int32))))))))
else (if r76.1 = (3 : Int32) then (pw_ck (dw_is r76.2 r34 13) (
pw_nn (dw_r r76.2 r34 6) (fun (r123 : Nat) =>
pw_ck (dw_is r76.2 r123 24) (
pw_ck (dw_is r76.2 q23 15 ∧ (a42.2.2.2.2.1 + 21) ≤ dw_rc ∧ (a42.2.2.2.2.2 + 86) ≤ dw_rs) (
dw_P_X15_below q23 ((Int32.ofNat (dw_l r76.2 r123)) + (1 : Int32)) r76.2 (fun (r124 : Int32 × dw_S) =>
pw_lt r124.1 (fun (v125 : Int32) =>
pw_ck (dw_is r124.2 q23 15 ∧ (a42.2.2.2.2.1 + 21) ≤ dw_rc ∧ (a42.2.2.2.2.2 + 86) ≤ dw_rs) (
dw_P_X15_below q23 (2 : Int32) r124.2 (fun (r126 : Int32 × dw_S) =>
tw_jn (fun (a127 : Int32) =>
pw_lt a127 (fun (v129 : Int32) =>
pw_ck (dw_is r126.2 r34 13) (
pw_nn (dw_r r126.2 r34 6) (fun (r130 : Nat) =>
pw_ck (dw_is r126.2 r130 24) (
tw_jn (fun (a131 : Int32) =>
pw_lt a131 (fun (v133 : Int32) =>
tw_jn (fun (a134 : dw_S) =>
pw_ck (((a42.2.2.2.2.1 + 21) + 1) ≤ dw_rc ∧ ((a42.2.2.2.2.2 + 86) + 6) ≤ dw_rs) (
dw_P_L_use n v125 v129 a134 (fun (r136 : Int32 × dw_S) =>
tw_jn (fun (a137 : Int32 × dw_S × Nat × Nat) =>
tw_jn (fun (a139 : Int32) =>
pw_lt a139 (fun (v141 : Int32) =>
j78 (v141, v133, a137.2.1, a137.2.2.1, a137.2.2.2))) (fun (j140 : (Int32) → Prop) =>
if ¬ r136.1 = a137.1 then (j140 (0 : Int32))
else (j140 (1 : Int32)))) (fun (j138 : (Int32 × dw_S × Nat × Nat) → Prop) =>
if v133 = 0 then (j138 ((-2000000097 : Int32), r136.2, ((a42.2.2.2.2.1 + 21) + 1), ((a42.2.2.2.2.2 + 86) + 6)))
else (pw_ck (dw_is r136.2 r34 13 ∧ (((a42.2.2.2.2.1 + 21) + 1) + 95) ≤ dw_rc ∧ (((a42.2.2.2.2.2 + 86) + 6) + 8574) ≤ dw_rs) (
dw_P_X13_left n r34 r136.2 (fun (r142 : Nat × dw_S) =>
pw_ck ((((a42.2.2.2.2.1 + 21) + 1) + 95) ≤ dw_rc ∧ (((a42.2.2.2.2.2 + 86) + 6) + 8574) ≤ dw_rs) (
dw_P_X13_many n r142.1 r142.2 (fun (r143 : Int32) =>
j138 (r143, r142.2, (((a42.2.2.2.2.1 + 21) + 1) + 95), (((a42.2.2.2.2.2 + 86) + 6) + 8574))))))))))) (fun (j135 : (dw_S) → Prop) =>
if v133 = 0 then (j135 r126.2)
else (pw_ck (dw_is r126.2 r34 13) (
pw_nn (dw_r r126.2 r34 6) (fun (r144 : Nat) =>
pw_ck (dw_is r126.2 r144 24 ∧ tw_ok v125 (dw_l r126.2 r144) = true) (
pw_nn (dw_r r126.2 r144 (Int32.toNatClampNeg v125)) (fun (r145 : Nat) =>
pw_ck (tw_01 v129 = true) (
pw_ck (dw_is r126.2 r145 12) (pw_lt (dw_pi r126.2 r145 2 v129) (fun (Y146 : dw_S) =>
j135 Y146))))))))))) (fun (j132 : (Int32) → Prop) =>
if (Int32.ofNat (dw_l r126.2 r130)) ≤ v125 then (j132 (0 : Int32))
else (j132 (1 : Int32)))))))) (fun (j128 : (Int32) → Prop) =>
if ¬ r126.1 = 0 then (j128 (0 : Int32))
else (j128 (1 : Int32))))))))))))
else (if r76.1 = (4 : Int32) then (pw_ck (dw_is r76.2 q23 15 ∧ (a42.2.2.2.2.1 + 21) ≤ dw_rc ∧ (a42.2.2.2.2.2 + 86) ≤ dw_rs) (
dw_P_X15_below q23 (40 : Int32) r76.2 (fun (r148 : Int32 × dw_S) =>
pw_lt r148.1 (fun (v149 : Int32) =>
pw_ck (((a42.2.2.2.2.1 + 21) + 1) ≤ dw_rc ∧ ((a42.2.2.2.2.2 + 86) + 6) ≤ dw_rs) (
dw_P_L_hide n v149 r148.2 (fun (r150 : Int32 × dw_S) =>
pw_ck (dw_is r150.2 r34 13 ∧ (((a42.2.2.2.2.1 + 21) + 1) + 95) ≤ dw_rc ∧ (((a42.2.2.2.2.2 + 86) + 6) + 8574) ≤ dw_rs) (
dw_P_X13_hides n r34 v149 r150.2 (fun (r151 : Int32 × dw_S) =>
tw_jn (fun (a152 : Int32) =>
pw_lt a152 (fun (v154 : Int32) =>
j78 (v154, v74, r151.2, (((a42.2.2.2.2.1 + 21) + 1) + 95), (((a42.2.2.2.2.2 + 86) + 6) + 8574)))) (fun (j153 : (Int32) → Prop) =>
if ¬ r150.1 = r151.1 then (j153 (0 : Int32))
else (j153 (1 : Int32)))))))))))
else (pw_ck (dw_is r76.2 r34 13) (
pw_nn (dw_r r76.2 r34 5) (fun (r155 : Nat) =>
pw_ck (dw_is r76.2 r155 26) (
pw_ck (dw_is r76.2 q23 15 ∧ (a42.2.2.2.2.1 + 21) ≤ dw_rc ∧ (a42.2.2.2.2.2 + 86) ≤ dw_rs) (
dw_P_X15_below q23 ((Int32.ofNat (dw_l r76.2 r155)) + (1 : Int32)) r76.2 (fun (r156 : Int32 × dw_S) =>
pw_lt r156.1 (fun (v157 : Int32) =>
pw_ck (dw_is r156.2 q23 15 ∧ (a42.2.2.2.2.1 + 21) ≤ dw_rc ∧ (a42.2.2.2.2.2 + 86) ≤ dw_rs) (
dw_P_X15_below q23 (9 : Int32) r156.2 (fun (r158 : Int32 × dw_S) =>
pw_lt (r158.1 - (4 : Int32)) (fun (v159 : Int32) =>
pw_ck (dw_is r158.2 r34 13) (
pw_nn (dw_r r158.2 r34 5) (fun (r160 : Nat) =>
pw_ck (dw_is r158.2 r160 26) (
tw_jn (fun (a161 : Int32) =>
pw_lt a161 (fun (v163 : Int32) =>
tw_jn (fun (a164 : Int32) =>
pw_lt a164 (fun (v166 : Int32) =>
tw_jn (fun (a167 : Int32) =>
pw_lt a167 (fun (v169 : Int32) =>
tw_jn (fun (a170 : dw_S) =>
pw_ck (((a42.2.2.2.2.1 + 21) + 1) ≤ dw_rc ∧ ((a42.2.2.2.2.2 + 86) + 6) ≤ dw_rs) (
dw_P_L_turn n v157 v159 a170 (fun (r172 : Int32 × dw_S) =>
tw_jn (fun (a173 : Int32) =>
tw_jn (fun (a175 : Int32) =>
pw_lt a175 (fun (v177 : Int32) =>
j78 (v177, v166, r172.2, ((a42.2.2.2.2.1 + 21) + 1), ((a42.2.2.2.2.2 + 86) + 6)))) (fun (j176 : (Int32) → Prop) =>
if ¬ r172.1 = a173 then (j176 (0 : Int32))
else (j176 (1 : Int32)))) (fun (j174 : (Int32) → Prop) =>
if v166 = 0 then (if v163 = 0 then (j174 (-2000000097 : Int32))
else (j174 (-2000000098 : Int32)))
else (j174 v169))))) (fun (j171 : (dw_S) → Prop) =>
if v166 = 0 then (j171 r158.2)
else (pw_ck (dw_is r158.2 r34 13) (
pw_nn (dw_r r158.2 r34 5) (fun (r178 : Nat) =>
pw_ck (dw_is r158.2 r178 26 ∧ tw_ok v157 (dw_l r158.2 r178) = true) (
pw_nn (dw_r r158.2 r178 (Int32.toNatClampNeg v157)) (fun (r179 : Nat) =>
pw_ck (dw_is r158.2 r179 20 ∧ tw_ok (4 : Int32) (dw_l r158.2 r179) = true) (pw_lt (dw_pi r158.2 r179 (Int32.toNatClampNeg (4 : Int32)) v159) (fun (Y180 : dw_S) =>
j171 Y180)))))))))) (fun (j168 : (Int32) → Prop) =>
if v163 = 0 then (j168 (0 : Int32))
else (pw_ck (dw_is r158.2 r34 13) (
pw_nn (dw_r r158.2 r34 5) (fun (r181 : Nat) =>
pw_ck (dw_is r158.2 r181 26 ∧ tw_ok v157 (dw_l r158.2 r181) = true) (
pw_nn (dw_r r158.2 r181 (Int32.toNatClampNeg v157)) (fun (r182 : Nat) =>
pw_ck (dw_is r158.2 r182 20 ∧ tw_ok (4 : Int32) (dw_l r158.2 r182) = true) (
j168 (dw_i r158.2 r182 (Int32.toNatClampNeg (4 : Int32)))))))))))) (fun (j165 : (Int32) → Prop) =>
tw_jn (fun (a183 : Unit) =>
j165 (0 : Int32)) (fun (j184 : (Unit) → Prop) =>
if v163 = 0 then (j184 ())
else (pw_ck ((a42.2.2.2.2.1 + 21) ≤ dw_rc ∧ (a42.2.2.2.2.2 + 86) ≤ dw_rs) (
if (4 : Int32) ≤ (if 0 ≤ v159 then v159 else 0 - v159) then (j184 ())
else (j165 (1 : Int32)))))))) (fun (j162 : (Int32) → Prop) =>
if (Int32.ofNat (dw_l r158.2 r160)) ≤ v157 then (j162 (0 : Int32))
else (j162 (1 : Int32)))))))))))))))))))))))))))))))))) n (v37, v40, v41, Y39, (a35.2.2.1 + 1), (a35.2.2.2 + (Int32.toNatClampNeg (9 : Int32))))))))))) (fun (j36 : (Int32 × dw_S × Nat × Nat) → Prop) =>
tw_jn (fun (a186 : dw_S × Nat × Nat) =>
j36 ((0 : Int32), a186.1, a186.2.1, a186.2.2)) (fun (j187 : (dw_S × Nat × Nat) → Prop) =>
if v32 = 0 then (j187 (r33.2, (a30.2.2.1 + 300), (a30.2.2.2 + 2600)))
else (pw_ck (((a30.2.2.1 + 300) + 1457) ≤ dw_rc ∧ ((a30.2.2.2 + 2600) + 117018) ≤ dw_rs) (
dw_P_L_agrees n r34 r33.2 (fun (r188 : Int32 × dw_S) =>
if r188.1 = 0 then (j187 (r188.2, ((a30.2.2.1 + 300) + 1457), ((a30.2.2.2 + 2600) + 117018)))
else (j36 ((1 : Int32), r188.2, ((a30.2.2.1 + 300) + 1457), ((a30.2.2.2 + 2600) + 117018))))))))))))) (fun (j31 : (Int32 × dw_S × Nat × Nat) → Prop) =>
tw_jn (fun (a189 : dw_S × Nat × Nat) =>
j31 ((0 : Int32), a189.1, a189.2.1, a189.2.2)) (fun (j190 : (dw_S × Nat × Nat) → Prop) =>
if r29.1 = 0 then (j190 (r29.2, (((((c0 + 1) + 1) + 1) + 6) + 1457), (((((s0 + (Int32.toNatClampNeg (8 : Int32))) + 1) + 13) + 19) + 117018)))
else (pw_ck ((((((c0 + 1) + 1) + 1) + 6) + 1457) ≤ dw_rc ∧ (((((s0 + (Int32.toNatClampNeg (8 : Int32))) + 1) + 13) + 19) + 117018) ≤ dw_rs) (
pw_bd (tw_P_X11_errorOffset (dw_s r29.2)) (fun r191 =>
if ¬ r191 = (-1 : Int32) then (j190 ((dw_cs r29.2 (dw_s r29.2)), (((((c0 + 1) + 1) + 1) + 6) + 1457), (((((s0 + (Int32.toNatClampNeg (8 : Int32))) + 1) + 13) + 19) + 117018)))
else (pw_ck ((((((c0 + 1) + 1) + 1) + 6) + 1457) ≤ dw_rc ∧ (((((s0 + (Int32.toNatClampNeg (8 : Int32))) + 1) + 13) + 19) + 117018) ≤ dw_rs) (
pw_bd (tw_P_X11_undo n (dw_s (dw_cs r29.2 (dw_s r29.2)))) (fun r192 =>
if ¬ r192.1 = (-1 : Int32) then (j190 ((dw_cs (dw_cs r29.2 (dw_s r29.2)) r192.2), (((((c0 + 1) + 1) + 1) + 6) + 1457), (((((s0 + (Int32.toNatClampNeg (8 : Int32))) + 1) + 13) + 19) + 117018)))
else (pw_ck (((((((c0 + 1) + 1) + 1) + 6) + 1457) + 1) ≤ dw_rc ∧ ((((((s0 + (Int32.toNatClampNeg (8 : Int32))) + 1) + 13) + 19) + 117018) + 6) ≤ dw_rs) (
dw_P_L_turn n (0 : Int32) (0 : Int32) (dw_cs (dw_cs r29.2 (dw_s r29.2)) r192.2) (fun (r193 : Int32 × dw_S) =>
if ¬ r193.1 = (-2000000097 : Int32) then (j190 (r193.2, ((((((c0 + 1) + 1) + 1) + 6) + 1457) + 1), ((((((s0 + (Int32.toNatClampNeg (8 : Int32))) + 1) + 13) + 19) + 117018) + 6)))
else (pw_ck ((((((((c0 + 1) + 1) + 1) + 6) + 1457) + 1) + 1) ≤ dw_rc ∧ (((((((s0 + (Int32.toNatClampNeg (8 : Int32))) + 1) + 13) + 19) + 117018) + 6) + 6) ≤ dw_rs) (
dw_P_L_use n (0 : Int32) (1 : Int32) r193.2 (fun (r194 : Int32 × dw_S) =>
if ¬ r194.1 = (-2000000097 : Int32) then (j190 (r194.2, (((((((c0 + 1) + 1) + 1) + 6) + 1457) + 1) + 1), (((((((s0 + (Int32.toNatClampNeg (8 : Int32))) + 1) + 13) + 19) + 117018) + 6) + 6)))
else (pw_ck (((((((((c0 + 1) + 1) + 1) + 6) + 1457) + 1) + 1) + 1) ≤ dw_rc ∧ ((((((((s0 + (Int32.toNatClampNeg (8 : Int32))) + 1) + 13) + 19) + 117018) + 6) + 6) + 6) ≤ dw_rs) (
dw_P_L_hide n (10000 : Int32) r194.2 (fun (r195 : Int32 × dw_S) =>
if ¬ r195.1 = (-2000000098 : Int32) then (j190 (r195.2, ((((((((c0 + 1) + 1) + 1) + 6) + 1457) + 1) + 1) + 1), ((((((((s0 + (Int32.toNatClampNeg (8 : Int32))) + 1) + 13) + 19) + 117018) + 6) + 6) + 6)))
else (pw_ck ((((((((((c0 + 1) + 1) + 1) + 6) + 1457) + 1) + 1) + 1) + 1) ≤ dw_rc ∧ (((((((((s0 + (Int32.toNatClampNeg (8 : Int32))) + 1) + 13) + 19) + 117018) + 6) + 6) + 6) + 6) ≤ dw_rs) (
dw_P_L_moveTo n (0 : Int32) (1 : Int32) r195.2 (fun (r196 : Int32 × dw_S) =>
if ¬ r196.1 = (-2000000097 : Int32) then (j190 (r196.2, (((((((((c0 + 1) + 1) + 1) + 6) + 1457) + 1) + 1) + 1) + 1), (((((((((s0 + (Int32.toNatClampNeg (8 : Int32))) + 1) + 13) + 19) + 117018) + 6) + 6) + 6) + 6)))
else (pw_ck ((((((((((c0 + 1) + 1) + 1) + 6) + 1457) + 1) + 1) + 1) + 1) ≤ dw_rc ∧ (((((((((s0 + (Int32.toNatClampNeg (8 : Int32))) + 1) + 13) + 19) + 117018) + 6) + 6) + 6) + 6) ≤ dw_rs) (
pw_bd (tw_P_X11_dig (dw_s r196.2)) (fun r197 =>
if ¬ r197.1 = (1 : Int32) then (j190 ((dw_cs r196.2 r197.2), (((((((((c0 + 1) + 1) + 1) + 6) + 1457) + 1) + 1) + 1) + 1), (((((((((s0 + (Int32.toNatClampNeg (8 : Int32))) + 1) + 13) + 19) + 117018) + 6) + 6) + 6) + 6)))
else (pw_ck ((((((((((c0 + 1) + 1) + 1) + 6) + 1457) + 1) + 1) + 1) + 1) ≤ dw_rc ∧ (((((((((s0 + (Int32.toNatClampNeg (8 : Int32))) + 1) + 13) + 19) + 117018) + 6) + 6) + 6) + 6) ≤ dw_rs) (
pw_bd (tw_P_X11_dig (dw_s (dw_cs r196.2 r197.2))) (fun r198 =>
if ¬ r198.1 = 0 then (j190 ((dw_cs (dw_cs r196.2 r197.2) r198.2), (((((((((c0 + 1) + 1) + 1) + 6) + 1457) + 1) + 1) + 1) + 1), (((((((((s0 + (Int32.toNatClampNeg (8 : Int32))) + 1) + 13) + 19) + 117018) + 6) + 6) + 6) + 6)))
else (pw_ck ((((((((((c0 + 1) + 1) + 1) + 6) + 1457) + 1) + 1) + 1) + 1) ≤ dw_rc ∧ (((((((((s0 + (Int32.toNatClampNeg (8 : Int32))) + 1) + 13) + 19) + 117018) + 6) + 6) + 6) + 6) ≤ dw_rs) (
pw_bd (tw_P_X11_undo n (dw_s (dw_cs (dw_cs r196.2 r197.2) r198.2))) (fun r199 =>
if ¬ r199.1 = (1 : Int32) then (j190 ((dw_cs (dw_cs (dw_cs r196.2 r197.2) r198.2) r199.2), (((((((((c0 + 1) + 1) + 1) + 6) + 1457) + 1) + 1) + 1) + 1), (((((((((s0 + (Int32.toNatClampNeg (8 : Int32))) + 1) + 13) + 19) + 117018) + 6) + 6) + 6) + 6)))
else (pw_ck ((((((((((c0 + 1) + 1) + 1) + 6) + 1457) + 1) + 1) + 1) + 1) ≤ dw_rc ∧ (((((((((s0 + (Int32.toNatClampNeg (8 : Int32))) + 1) + 13) + 19) + 117018) + 6) + 6) + 6) + 6) ≤ dw_rs) (
pw_bd (tw_P_X11_undo n (dw_s (dw_cs (dw_cs (dw_cs r196.2 r197.2) r198.2) r199.2))) (fun r200 =>
if ¬ r200.1 = 0 then (j190 ((dw_cs (dw_cs (dw_cs (dw_cs r196.2 r197.2) r198.2) r199.2) r200.2), (((((((((c0 + 1) + 1) + 1) + 6) + 1457) + 1) + 1) + 1) + 1), (((((((((s0 + (Int32.toNatClampNeg (8 : Int32))) + 1) + 13) + 19) + 117018) + 6) + 6) + 6) + 6)))
else (j31 ((1 : Int32), (dw_cs (dw_cs (dw_cs (dw_cs r196.2 r197.2) r198.2) r199.2) r200.2), (((((((((c0 + 1) + 1) + 1) + 6) + 1457) + 1) + 1) + 1) + 1), (((((((((s0 + (Int32.toNatClampNeg (8 : Int32))) + 1) + 13) + 19) + 117018) + 6) + 6) + 6) + 6)))))))))))))))))))))))))))))))))))))))))))))))))))
set_option maxRecDepth 100000 in
set_option maxHeartbeats 40000000 in
theorem dw_lawB {z : tw_Z} {b bs n Ln : Nat} {xs : Nat → Int32} {x1 x2 : Int32} {c0 s0 : Nat} {Y : dw_S} {j4 : (Int32 × Int32 × dw_S × Nat × Nat) → Prop} (X : tw_X z cL_law "TreasureWalkLaw" 22) (hA : dw_AK (tw_zB z) (tw_zS z) (tw_zs z)) (hb : tw_zB z ≤ b) (hD : (tw_zD z).2 = []) (hst : (tw_zl z).stackTraces = false) (hfr : (tw_zR z).frames = 2048) (hlo : (tw_zR z).locals = 84000) (eMC : (tw_zR z).cells = dw_rc) (eMS : (tw_zR z).slots = dw_rs) (hX : va_X bs Ln xs (tw_zs z) (tw_zs z).heap) (hbl : bs < (tw_zs z).heap.size) (hbB : bs < tw_zB z) (hj4 : ∀ a : Int32 × Int32 × dw_S × Nat × Nat, dw_Rf (tw_cz z a.2.2.2.1 a.2.2.2.2) b (j4 a) a.2.2.1 4 [(0, .ref bs), (1, .int a.1), (2, .int a.2.1)] []) : dw_Rf (tw_cz z c0 s0) b (dw_P_L_lawB n Ln xs x1 x2 c0 s0 Y j4) Y 26 [(0, .ref bs), (1, .int x1), (2, .int x2)] [.ref (b + 0)] := by
  unfold dw_P_L_lawB
  refine e_astore_n (z := tw_cz z c0 s0) (dw_zX X) dL_law_26 rfl (by decide) (L' := [(3, .ref (b + 0)), (0, .ref bs), (1, .int x1), (2, .int x2)]) rfl ?_
  refine e_bipush (z := tw_cz z c0 s0) (dw_zX X) dL_law_27 (v := (8 : Int32)) (by decide) ?_
  refine e_newi (c := c0) (s := s0) (z := tw_cz z c0 s0) (dw_zX X) dw_z0 (dw_zM eMC eMS) dL_law_29 hA.1.1 (fun q21 Y22 => ?_)
  show dw_Rf (tw_cz z (c0 + 1) (s0 + (Int32.toNatClampNeg (8 : Int32)))) b _ Y22 _ [(3, .ref (b + 0)), (0, .ref bs), (1, .int x1), (2, .int x2)] [.ref (b + q21)]
  refine e_astore (z := tw_cz z (c0 + 1) (s0 + (Int32.toNatClampNeg (8 : Int32)))) (dw_zX X) dL_law_31 (by decide) (L' := [(4, .ref (b + q21)), (3, .ref (b + 0)), (0, .ref bs), (1, .int x1), (2, .int x2)]) rfl ?_
  refine e_new (ci := 15) (T := TX15) (N := 1) (c := (c0 + 1)) (s := (s0 + (Int32.toNatClampNeg (8 : Int32)))) (z := tw_cz z (c0 + 1) (s0 + (Int32.toNatClampNeg (8 : Int32)))) (dw_zX X) dw_z0 (dw_zM eMC eMS) dL_law_33 _ dw_w733 (List.mem_of_getElem? dw_w734) (List.mem_of_getElem? dw_w49) dw_in15 tyX15 tyX15_ok rfl dw_df15 (by decide) (fun a => dw_fr15) (fun q23 Y24 => ?_)
  show dw_Rf (tw_cz z ((c0 + 1) + 1) ((s0 + (Int32.toNatClampNeg (8 : Int32))) + 1)) b _ Y24 _ [(4, .ref (b + q21)), (3, .ref (b + 0)), (0, .ref bs), (1, .int x1), (2, .int x2)] [.ref (b + q23)]
  refine e_dup (z := tw_cz z ((c0 + 1) + 1) ((s0 + (Int32.toNatClampNeg (8 : Int32))) + 1)) (dw_zX X) dL_law_36 rfl ?_
  refine e_aload_n (z := tw_cz z ((c0 + 1) + 1) ((s0 + (Int32.toNatClampNeg (8 : Int32))) + 1)) (dw_zX X) dL_law_37 rfl 2 rfl ?_
  refine e_iload_n (z := tw_cz z ((c0 + 1) + 1) ((s0 + (Int32.toNatClampNeg (8 : Int32))) + 1)) (dw_zX X) dL_law_38 rfl 4 rfl ?_
  refine e_sld (z := tw_cz z ((c0 + 1) + 1) ((s0 + (Int32.toNatClampNeg (8 : Int32))) + 1)) X hX hbl hbB dL_law_39 ?_
  refine e_callI (c := ((c0 + 1) + 1)) (s := ((s0 + (Int32.toNatClampNeg (8 : Int32))) + 1)) (As := [.int (xs (Int32.toNatClampNeg x2))]) (z := tw_cz z ((c0 + 1) + 1) ((s0 + (Int32.toNatClampNeg (8 : Int32))) + 1)) (dw_zX X) (dw_zA hA) (dw_zb hb) (dw_zD hD) dw_z0 (dw_zM eMC eMS) dL_law_40 (fun Q h => dw_m_X15_init (dw_zD hD) h) dw_y_X15_init dw_v_X15_init rfl _ dw_w735 rfl ⟨dw_zf hfr rfl, dw_zl hlo rfl⟩ (Nat.le_of_ble_eq_true rfl) rfl (fun r25 => ?_)
  show dw_Rf (tw_cz z ((c0 + 1) + 1) ((s0 + (Int32.toNatClampNeg (8 : Int32))) + 1)) b _ r25 _ [(4, .ref (b + q21)), (3, .ref (b + 0)), (0, .ref bs), (1, .int x1), (2, .int x2)] [.ref (b + q23)]
  refine e_astore (z := tw_cz z ((c0 + 1) + 1) ((s0 + (Int32.toNatClampNeg (8 : Int32))) + 1)) (dw_zX X) dL_law_43 (by decide) (L' := [(5, .ref (b + q23)), (4, .ref (b + q21)), (3, .ref (b + 0)), (0, .ref bs), (1, .int x1), (2, .int x2)]) rfl ?_
  refine e_aload_n (z := tw_cz z ((c0 + 1) + 1) ((s0 + (Int32.toNatClampNeg (8 : Int32))) + 1)) (dw_zX X) dL_law_45 rfl 2 rfl ?_
  refine e_new (ci := 13) (T := TX13) (N := 13) (c := ((c0 + 1) + 1)) (s := ((s0 + (Int32.toNatClampNeg (8 : Int32))) + 1)) (z := tw_cz z ((c0 + 1) + 1) ((s0 + (Int32.toNatClampNeg (8 : Int32))) + 1)) (dw_zX X) dw_z0 (dw_zM eMC eMS) dL_law_46 _ dw_w580 (List.mem_of_getElem? dw_w581) (List.mem_of_getElem? dw_w50) dw_in13 tyX13 tyX13_ok rfl dw_df13 (by decide) (fun a => dw_fr13) (fun q26 Y27 => ?_)
  show dw_Rf (tw_cz z (((c0 + 1) + 1) + 1) (((s0 + (Int32.toNatClampNeg (8 : Int32))) + 1) + 13)) b _ Y27 _ [(5, .ref (b + q23)), (4, .ref (b + q21)), (3, .ref (b + 0)), (0, .ref bs), (1, .int x1), (2, .int x2)] [.ref (b + q26), .ref (b + 0)]
  refine e_dup (z := tw_cz z (((c0 + 1) + 1) + 1) (((s0 + (Int32.toNatClampNeg (8 : Int32))) + 1) + 13)) (dw_zX X) dL_law_49 rfl ?_
  refine e_callIN (c := (((c0 + 1) + 1) + 1)) (s := (((s0 + (Int32.toNatClampNeg (8 : Int32))) + 1) + 13)) (As := []) (z := tw_cz z (((c0 + 1) + 1) + 1) (((s0 + (Int32.toNatClampNeg (8 : Int32))) + 1) + 13)) (dw_zX X) (dw_zA hA) (dw_zb hb) (dw_zD hD) dw_z0 (dw_zM eMC eMS) dL_law_50 (fun Q h => dw_m_X13_init (dw_zD hD) h) dw_y_X13_init dw_v_X13_init rfl _ dw_w582 rfl ⟨dw_zf hfr rfl, dw_zl hlo rfl⟩ (Nat.le_of_ble_eq_true rfl) rfl (fun r28 => ?_)
  show dw_Rf (tw_cz z ((((c0 + 1) + 1) + 1) + 6) ((((s0 + (Int32.toNatClampNeg (8 : Int32))) + 1) + 13) + 19)) b _ r28 _ [(5, .ref (b + q23)), (4, .ref (b + q21)), (3, .ref (b + 0)), (0, .ref bs), (1, .int x1), (2, .int x2)] [.ref (b + q26), .ref (b + 0)]
  refine e_callS (c := ((((c0 + 1) + 1) + 1) + 6)) (s := ((((s0 + (Int32.toNatClampNeg (8 : Int32))) + 1) + 13) + 19)) (As := [.ref (b + 0), .ref (b + q26)]) (z := tw_cz z ((((c0 + 1) + 1) + 1) + 6) ((((s0 + (Int32.toNatClampNeg (8 : Int32))) + 1) + 13) + 19)) (dw_zX X) (dw_zA hA) (dw_zb hb) (dw_zD hD) dw_z0 (dw_zM eMC eMS) dL_law_53 (fun Q h => dw_m_L_agrees hD hst h) dw_y_L_agrees dw_v_L_agrees _ dw_w1542 rfl ⟨dw_zf hfr rfl, dw_zl hlo rfl⟩ (Nat.le_of_ble_eq_true rfl) rfl (fun r29 => ?_)
  show dw_Rf (tw_cz z (((((c0 + 1) + 1) + 1) + 6) + 1457) (((((s0 + (Int32.toNatClampNeg (8 : Int32))) + 1) + 13) + 19) + 117018)) b _ r29.2 _ [(5, .ref (b + q23)), (4, .ref (b + q21)), (3, .ref (b + 0)), (0, .ref bs), (1, .int x1), (2, .int x2)] [.int r29.1]
  refine e_jn (α := Int32 × dw_S × Nat × Nat) (zJ := fun a30 => tw_cz z a30.2.2.1 a30.2.2.2) (YJ := fun a30 => a30.2.1) (pcJ := 155) (LJ := fun a30 => [(5, .ref (b + q23)), (4, .ref (b + q21)), (3, .ref (b + 0)), (0, .ref bs), (2, .int x2)]) (stJ := fun a30 => [.int a30.1]) (fun a30 => ?_) (fun j31 hj31 => ?_)
  ·
    refine e_istore_n (z := tw_cz z a30.2.2.1 a30.2.2.2) (dw_zX X) dL_law_155 rfl (by decide) (LL := fun v32 => [(1, .int v32), (5, .ref (b + q23)), (4, .ref (b + q21)), (3, .ref (b + 0)), (0, .ref bs), (2, .int x2)]) (fun _ => rfl) (fun v32 => ?_)
    refine e_aload_n (z := tw_cz z a30.2.2.1 a30.2.2.2) (dw_zX X) dL_law_156 rfl 3 rfl ?_
    refine e_aload (z := tw_cz z a30.2.2.1 a30.2.2.2) (dw_zX X) dL_law_157 2 rfl ?_
    refine e_aload (z := tw_cz z a30.2.2.1 a30.2.2.2) (dw_zX X) dL_law_159 1 rfl ?_
    refine e_callS (c := a30.2.2.1) (s := a30.2.2.2) (As := [.ref (b + 0), .ref (b + q21), .ref (b + q23)]) (z := tw_cz z a30.2.2.1 a30.2.2.2) (dw_zX X) (dw_zA hA) (dw_zb hb) (dw_zD hD) dw_z0 (dw_zM eMC eMS) dL_law_161 (fun Q h => dw_m_L_randomIsland hD hst h) dw_y_L_randomIsland dw_v_L_randomIsland _ dw_w1235 rfl ⟨dw_zf hfr rfl, dw_zl hlo rfl⟩ (Nat.le_of_ble_eq_true rfl) rfl (fun r33 => ?_)
    show dw_Rf (tw_cz z (a30.2.2.1 + 300) (a30.2.2.2 + 2600)) b _ r33.2 _ [(1, .int v32), (5, .ref (b + q23)), (4, .ref (b + q21)), (3, .ref (b + 0)), (0, .ref bs), (2, .int x2)] [dw_v b r33.1]
    refine e_astore_rnw (z := tw_cz z (a30.2.2.1 + 300) (a30.2.2.2 + 2600)) (dw_zX X) dL_law_164 (by decide) (L' := [(6, dw_v b r33.1), (1, .int v32), (5, .ref (b + q23)), (4, .ref (b + q21)), (3, .ref (b + 0)), (0, .ref bs), (2, .int x2)]) rfl ?_
    refine e_aload_rnw (z := tw_cz z (a30.2.2.1 + 300) (a30.2.2.2 + 2600)) (dw_zX X) dL_law_166 0 rfl ?_
    refine e_ifnonnull (r := r33.1) (LL := fun q => [(6, dw_v b q), (1, .int v32), (5, .ref (b + q23)), (4, .ref (b + q21)), (3, .ref (b + 0)), (0, .ref bs), (2, .int x2)]) (z := tw_cz z (a30.2.2.1 + 300) (a30.2.2.2 + 2600)) (dw_zX X) dL_law_168 (tgt := 173) (by decide) ?_ (fun r34 => ?_)
    ·
      show dw_Rf (tw_cz z (a30.2.2.1 + 300) (a30.2.2.2 + 2600)) b _ r33.2 _ [(6, .null), (1, .int v32), (5, .ref (b + q23)), (4, .ref (b + q21)), (3, .ref (b + 0)), (0, .ref bs), (2, .int x2)] []
      refine e_iconst (z := tw_cz z (a30.2.2.1 + 300) (a30.2.2.2 + 2600)) (dw_zX X) dL_law_171 (v := (0 : Int32)) (by decide) ?_
      exact fun h => h.elim
    ·
      show dw_Rf (tw_cz z (a30.2.2.1 + 300) (a30.2.2.2 + 2600)) b _ r33.2 _ [(6, .ref (b + r34)), (1, .int v32), (5, .ref (b + q23)), (4, .ref (b + q21)), (3, .ref (b + 0)), (0, .ref bs), (2, .int x2)] []
      refine e_iload_n (z := tw_cz z (a30.2.2.1 + 300) (a30.2.2.2 + 2600)) (dw_zX X) dL_law_173 rfl 1 rfl ?_
      refine e_jn (α := Int32 × dw_S × Nat × Nat) (zJ := fun a35 => tw_cz z a35.2.2.1 a35.2.2.2) (YJ := fun a35 => a35.2.1) (pcJ := 191) (LJ := fun a35 => [(6, .ref (b + r34)), (5, .ref (b + q23)), (3, .ref (b + 0)), (0, .ref bs), (2, .int x2)]) (stJ := fun a35 => [.int a35.1]) (fun a35 => ?_) (fun j36 hj36 => ?_)
      ·
        refine e_istore_n (z := tw_cz z a35.2.2.1 a35.2.2.2) (dw_zX X) dL_law_191 rfl (by decide) (LL := fun v37 => [(1, .int v37), (6, .ref (b + r34)), (5, .ref (b + q23)), (3, .ref (b + 0)), (0, .ref bs), (2, .int x2)]) (fun _ => rfl) (fun v37 => ?_)
        refine e_bipush (z := tw_cz z a35.2.2.1 a35.2.2.2) (dw_zX X) dL_law_192 (v := (9 : Int32)) (by decide) ?_
        refine e_newq (t0 := 8) (kd := 25) (c := a35.2.2.1) (s := a35.2.2.2) (z := tw_cz z a35.2.2.1 a35.2.2.2) (dw_zX X) dw_z0 (dw_zM eMC eMS) dL_law_194 _ dw_w580 hA.2.1.2.2 rfl (by decide) (fun Y k h => dw_E25 h) (fun q38 Y39 => ?_)
        show dw_Rf (tw_cz z (a35.2.2.1 + 1) (a35.2.2.2 + (Int32.toNatClampNeg (9 : Int32)))) b _ Y39 _ [(1, .int v37), (6, .ref (b + r34)), (5, .ref (b + q23)), (3, .ref (b + 0)), (0, .ref bs), (2, .int x2)] [.ref (b + q38)]
        refine e_astore (z := tw_cz z (a35.2.2.1 + 1) (a35.2.2.2 + (Int32.toNatClampNeg (9 : Int32)))) (dw_zX X) dL_law_197 (by decide) (L' := [(7, .ref (b + q38)), (1, .int v37), (6, .ref (b + r34)), (5, .ref (b + q23)), (3, .ref (b + 0)), (0, .ref bs), (2, .int x2)]) rfl ?_
        refine e_iconst (z := tw_cz z (a35.2.2.1 + 1) (a35.2.2.2 + (Int32.toNatClampNeg (9 : Int32)))) (dw_zX X) dL_law_199 (v := (0 : Int32)) (by decide) ?_
        refine e_istore (z := tw_cz z (a35.2.2.1 + 1) (a35.2.2.2 + (Int32.toNatClampNeg (9 : Int32)))) (dw_zX X) dL_law_200 (by decide) (LL := fun v40 => [(8, .int v40), (7, .ref (b + q38)), (1, .int v37), (6, .ref (b + r34)), (5, .ref (b + q23)), (3, .ref (b + 0)), (0, .ref bs), (2, .int x2)]) (fun _ => rfl) (fun v40 => ?_)
        refine e_iconst (z := tw_cz z (a35.2.2.1 + 1) (a35.2.2.2 + (Int32.toNatClampNeg (9 : Int32)))) (dw_zX X) dL_law_202 (v := (0 : Int32)) (by decide) ?_
        refine e_istore (z := tw_cz z (a35.2.2.1 + 1) (a35.2.2.2 + (Int32.toNatClampNeg (9 : Int32)))) (dw_zX X) dL_law_203 (by decide) (LL := fun v41 => [(9, .int v41), (8, .int v40), (7, .ref (b + q38)), (1, .int v37), (6, .ref (b + r34)), (5, .ref (b + q23)), (3, .ref (b + 0)), (0, .ref bs), (2, .int x2)]) (fun _ => rfl) (fun v41 => ?_)
        refine e_lp (α := Int32 × Int32 × Int32 × dw_S × Nat × Nat) (zJ := fun a42 => tw_cz z a42.2.2.2.2.1 a42.2.2.2.2.2) (YJ := fun a42 => a42.2.2.2.1) (pcJ := 205) (LJ := fun a42 => [(9, .int a42.2.2.1), (8, .int a42.2.1), (7, .ref (b + q38)), (1, .int a42.1), (6, .ref (b + r34)), (5, .ref (b + q23)), (3, .ref (b + 0)), (0, .ref bs), (2, .int x2)]) (stJ := fun a42 => []) (fun k43 hk43 a42 => ?_) n (v37, v40, v41, Y39, (a35.2.2.1 + 1), (a35.2.2.2 + (Int32.toNatClampNeg (9 : Int32))))
        refine e_iload (z := tw_cz z a42.2.2.2.2.1 a42.2.2.2.2.2) (dw_zX X) dL_law_205 0 rfl ?_
        refine e_bipush (z := tw_cz z a42.2.2.2.2.1 a42.2.2.2.2.2) (dw_zX X) dL_law_207 (v := (14 : Int32)) (by decide) ?_
        refine e_jn (α := Unit) (zJ := fun a44 => tw_cz z a42.2.2.2.2.1 a42.2.2.2.2.2) (YJ := fun a44 => a42.2.2.2.1) (pcJ := 755) (LJ := fun a44 => [(8, .int a42.2.1), (7, .ref (b + q38)), (1, .int a42.1), (3, .ref (b + 0)), (0, .ref bs), (2, .int x2)]) (stJ := fun a44 => []) (fun a44 => ?_) (fun j45 hj45 => ?_)
        ·
          refine e_iconst (z := tw_cz z a42.2.2.2.2.1 a42.2.2.2.2.2) (dw_zX X) dL_law_755 (v := (0 : Int32)) (by decide) ?_
          refine e_istore (z := tw_cz z a42.2.2.2.2.1 a42.2.2.2.2.2) (dw_zX X) dL_law_756 (by decide) (LL := fun v46 => [(9, .int v46), (8, .int a42.2.1), (7, .ref (b + q38)), (1, .int a42.1), (3, .ref (b + 0)), (0, .ref bs), (2, .int x2)]) (fun _ => rfl) (fun v46 => ?_)
          refine e_lp (α := Int32 × Int32 × Int32 × dw_S × Nat × Nat) (zJ := fun a47 => tw_cz z a47.2.2.2.2.1 a47.2.2.2.2.2) (YJ := fun a47 => a47.2.2.2.1) (pcJ := 758) (LJ := fun a47 => [(9, .int a47.2.2.1), (8, .int a47.2.1), (7, .ref (b + q38)), (1, .int a47.1), (3, .ref (b + 0)), (0, .ref bs), (2, .int x2)]) (stJ := fun a47 => []) (fun k48 hk48 a47 => ?_) n (a42.1, a42.2.1, v46, a42.2.2.2.1, a42.2.2.2.2.1, a42.2.2.2.2.2)
          refine e_iload (z := tw_cz z a47.2.2.2.2.1 a47.2.2.2.2.2) (dw_zX X) dL_law_758 0 rfl ?_
          refine e_bipush (z := tw_cz z a47.2.2.2.2.1 a47.2.2.2.2.2) (dw_zX X) dL_law_760 (v := (8 : Int32)) (by decide) ?_
          refine e_jn (α := Unit) (zJ := fun a49 => tw_cz z a47.2.2.2.2.1 a47.2.2.2.2.2) (YJ := fun a49 => a47.2.2.2.1) (pcJ := 807) (LJ := fun a49 => [(1, .int a47.1), (3, .ref (b + 0)), (0, .ref bs), (2, .int x2)]) (stJ := fun a49 => []) (fun a49 => ?_) (fun j50 hj50 => ?_)
          ·
            refine e_iload_n (z := tw_cz z a47.2.2.2.2.1 a47.2.2.2.2.2) (dw_zX X) dL_law_807 rfl 0 rfl ?_
            refine e_jn (α := Int32 × dw_S × Nat × Nat) (zJ := fun a51 => tw_cz z a51.2.2.1 a51.2.2.2) (YJ := fun a51 => a51.2.1) (pcJ := 900) (LJ := fun a51 => [(0, .ref bs), (2, .int x2)]) (stJ := fun a51 => [.int a51.1]) (fun a51 => ?_) (fun j52 hj52 => ?_)
            ·
              refine e_istore_n (z := tw_cz z a51.2.2.1 a51.2.2.2) (dw_zX X) dL_law_900 rfl (by decide) (LL := fun v53 => [(1, .int v53), (0, .ref bs), (2, .int x2)]) (fun _ => rfl) (fun v53 => ?_)
              refine e_iinc (z := tw_cz z a51.2.2.1 a51.2.2.2) (dw_zX X) dL_law_901 2 rfl (v := (1 : Int32)) (by decide) (by decide) (LL := fun v54 => [(2, .int v54), (1, .int v53), (0, .ref bs)]) (fun _ => rfl) (fun v54 => ?_)
              refine e_goto (z := tw_cz z a51.2.2.1 a51.2.2.2) (dw_zX X) dL_law_904 (tgt := 4) (by decide) ?_
              exact dw_Rf.sub [2, 1, 0] rfl (hj4 (v53, v54, a51.2.1, a51.2.2.1, a51.2.2.2))
            refine e_jn (α := dw_S × Nat × Nat) (zJ := fun a55 => tw_cz z a55.2.1 a55.2.2) (YJ := fun a55 => a55.1) (pcJ := 899) (LJ := fun a55 => [(0, .ref bs), (2, .int x2)]) (stJ := fun a55 => []) (fun a55 => ?_) (fun j56 hj56 => ?_)
            ·
              refine e_iconst (z := tw_cz z a55.2.1 a55.2.2) (dw_zX X) dL_law_899 (v := (0 : Int32)) (by decide) ?_
              exact hj52 ((0 : Int32), a55.1, a55.2.1, a55.2.2)
            refine e_if_eq (z := tw_cz z a47.2.2.2.2.1 a47.2.2.2.2.2) (dw_zX X) dL_law_808 (tgt := 899) (by decide) ?_ ?_
            ·
              exact dw_Rf.sub [2, 3] rfl (hj56 (a47.2.2.2.1, a47.2.2.2.2.1, a47.2.2.2.2.2))
            ·
              refine e_aload_n (z := tw_cz z a47.2.2.2.2.1 a47.2.2.2.2.2) (dw_zX X) dL_law_811 rfl 1 rfl ?_
              refine e_iconst (z := tw_cz z a47.2.2.2.2.1 a47.2.2.2.2.2) (dw_zX X) dL_law_812 (v := (1 : Int32)) (by decide) ?_
              refine e_callW (c := a47.2.2.2.2.1) (s := a47.2.2.2.2.2) (As := [.ref (b + 0), .int (1 : Int32)]) (z := tw_cz z a47.2.2.2.2.1 a47.2.2.2.2.2) (dw_zX X) (dw_zA hA) (dw_zb hb) (dw_zD hD) dw_z0 (dw_zM eMC eMS) dL_law_813 (fun Q h => dw_m_L_load hD hst h) dw_y_L_load _ dw_w748 rfl ⟨dw_zf hfr rfl, dw_zl hlo rfl⟩ (Nat.le_of_ble_eq_true rfl) rfl (fun r57 => ?_)
              show dw_Rf (tw_cz z (a47.2.2.2.2.1 + 1) (a47.2.2.2.2.2 + 6)) b _ r57.2 _ [(1, .int a47.1), (3, .ref (b + 0)), (0, .ref bs), (2, .int x2)] [.int r57.1]
              refine e_ldcI (z := tw_cz z (a47.2.2.2.2.1 + 1) (a47.2.2.2.2.2 + 6)) (dw_zX X) dL_law_816 (v := (-2000000098 : Int32)) _ dw_w1033 ?_
              refine e_icmp_ne (z := tw_cz z (a47.2.2.2.2.1 + 1) (a47.2.2.2.2.2 + 6)) (dw_zX X) dL_law_818 (tgt := 899) (by decide) ?_ ?_
              ·
                exact dw_Rf.sub [2, 3] rfl (hj56 (r57.2, (a47.2.2.2.2.1 + 1), (a47.2.2.2.2.2 + 6)))
              ·
                refine e_aload_n (z := tw_cz z (a47.2.2.2.2.1 + 1) (a47.2.2.2.2.2 + 6)) (dw_zX X) dL_law_821 rfl 1 rfl ?_
                refine e_iconst (z := tw_cz z (a47.2.2.2.2.1 + 1) (a47.2.2.2.2.2 + 6)) (dw_zX X) dL_law_822 (v := (0 : Int32)) (by decide) ?_
                refine e_iconst (z := tw_cz z (a47.2.2.2.2.1 + 1) (a47.2.2.2.2.2 + 6)) (dw_zX X) dL_law_823 (v := (0 : Int32)) (by decide) ?_
                refine e_bipush (z := tw_cz z (a47.2.2.2.2.1 + 1) (a47.2.2.2.2.2 + 6)) (dw_zX X) dL_law_824 (v := (8 : Int32)) (by decide) ?_
                refine e_callW (c := (a47.2.2.2.2.1 + 1)) (s := (a47.2.2.2.2.2 + 6)) (As := [.ref (b + 0), .int (0 : Int32), .int (0 : Int32), .int (8 : Int32)]) (z := tw_cz z (a47.2.2.2.2.1 + 1) (a47.2.2.2.2.2 + 6)) (dw_zX X) (dw_zA hA) (dw_zb hb) (dw_zD hD) dw_z0 (dw_zM eMC eMS) dL_law_826 (fun Q h => dw_m_L_pace hD hst h) dw_y_L_pace _ dw_w1034 rfl ⟨dw_zf hfr rfl, dw_zl hlo rfl⟩ (Nat.le_of_ble_eq_true rfl) rfl (fun r58 => ?_)
                show dw_Rf (tw_cz z ((a47.2.2.2.2.1 + 1) + 1) ((a47.2.2.2.2.2 + 6) + 6)) b _ r58.2 _ [(1, .int a47.1), (3, .ref (b + 0)), (0, .ref bs), (2, .int x2)] [.int r58.1]
                refine e_ldcI (z := tw_cz z ((a47.2.2.2.2.1 + 1) + 1) ((a47.2.2.2.2.2 + 6) + 6)) (dw_zX X) dL_law_829 (v := (-2000000098 : Int32)) _ dw_w1033 ?_
                refine e_icmp_ne (z := tw_cz z ((a47.2.2.2.2.1 + 1) + 1) ((a47.2.2.2.2.2 + 6) + 6)) (dw_zX X) dL_law_831 (tgt := 899) (by decide) ?_ ?_
                ·
                  exact dw_Rf.sub [2, 3] rfl (hj56 (r58.2, ((a47.2.2.2.2.1 + 1) + 1), ((a47.2.2.2.2.2 + 6) + 6)))
                ·
                  refine e_aload_n (z := tw_cz z ((a47.2.2.2.2.1 + 1) + 1) ((a47.2.2.2.2.2 + 6) + 6)) (dw_zX X) dL_law_834 rfl 1 rfl ?_
                  refine e_iconst (z := tw_cz z ((a47.2.2.2.2.1 + 1) + 1) ((a47.2.2.2.2.2 + 6) + 6)) (dw_zX X) dL_law_835 (v := (-1 : Int32)) (by decide) ?_
                  refine e_iconst (z := tw_cz z ((a47.2.2.2.2.1 + 1) + 1) ((a47.2.2.2.2.2 + 6) + 6)) (dw_zX X) dL_law_836 (v := (0 : Int32)) (by decide) ?_
                  refine e_iconst (z := tw_cz z ((a47.2.2.2.2.1 + 1) + 1) ((a47.2.2.2.2.2 + 6) + 6)) (dw_zX X) dL_law_837 (v := (0 : Int32)) (by decide) ?_
                  refine e_callW (c := ((a47.2.2.2.2.1 + 1) + 1)) (s := ((a47.2.2.2.2.2 + 6) + 6)) (As := [.ref (b + 0), .int (-1 : Int32), .int (0 : Int32), .int (0 : Int32)]) (z := tw_cz z ((a47.2.2.2.2.1 + 1) + 1) ((a47.2.2.2.2.2 + 6) + 6)) (dw_zX X) (dw_zA hA) (dw_zb hb) (dw_zD hD) dw_z0 (dw_zM eMC eMS) dL_law_838 (fun Q h => dw_m_L_pace hD hst h) dw_y_L_pace _ dw_w1034 rfl ⟨dw_zf hfr rfl, dw_zl hlo rfl⟩ (Nat.le_of_ble_eq_true rfl) rfl (fun r59 => ?_)
                  show dw_Rf (tw_cz z (((a47.2.2.2.2.1 + 1) + 1) + 1) (((a47.2.2.2.2.2 + 6) + 6) + 6)) b _ r59.2 _ [(1, .int a47.1), (3, .ref (b + 0)), (0, .ref bs), (2, .int x2)] [.int r59.1]
                  refine e_ldcI (z := tw_cz z (((a47.2.2.2.2.1 + 1) + 1) + 1) (((a47.2.2.2.2.2 + 6) + 6) + 6)) (dw_zX X) dL_law_841 (v := (-2000000097 : Int32)) _ dw_w1070 ?_
                  refine e_icmp_ne (z := tw_cz z (((a47.2.2.2.2.1 + 1) + 1) + 1) (((a47.2.2.2.2.2 + 6) + 6) + 6)) (dw_zX X) dL_law_843 (tgt := 899) (by decide) ?_ ?_
                  ·
                    exact dw_Rf.sub [2, 3] rfl (hj56 (r59.2, (((a47.2.2.2.2.1 + 1) + 1) + 1), (((a47.2.2.2.2.2 + 6) + 6) + 6)))
                  ·
                    refine e_aload_n (z := tw_cz z (((a47.2.2.2.2.1 + 1) + 1) + 1) (((a47.2.2.2.2.2 + 6) + 6) + 6)) (dw_zX X) dL_law_846 rfl 1 rfl ?_
                    refine e_iconst (z := tw_cz z (((a47.2.2.2.2.1 + 1) + 1) + 1) (((a47.2.2.2.2.2 + 6) + 6) + 6)) (dw_zX X) dL_law_847 (v := (4 : Int32)) (by decide) ?_
                    refine e_iconst (z := tw_cz z (((a47.2.2.2.2.1 + 1) + 1) + 1) (((a47.2.2.2.2.2 + 6) + 6) + 6)) (dw_zX X) dL_law_848 (v := (0 : Int32)) (by decide) ?_
                    refine e_iconst (z := tw_cz z (((a47.2.2.2.2.1 + 1) + 1) + 1) (((a47.2.2.2.2.2 + 6) + 6) + 6)) (dw_zX X) dL_law_849 (v := (0 : Int32)) (by decide) ?_
                    refine e_iconst (z := tw_cz z (((a47.2.2.2.2.1 + 1) + 1) + 1) (((a47.2.2.2.2.2 + 6) + 6) + 6)) (dw_zX X) dL_law_850 (v := (0 : Int32)) (by decide) ?_
                    refine e_callW (c := (((a47.2.2.2.2.1 + 1) + 1) + 1)) (s := (((a47.2.2.2.2.2 + 6) + 6) + 6)) (As := [.ref (b + 0), .int (4 : Int32), .int (0 : Int32), .int (0 : Int32), .int (0 : Int32)]) (z := tw_cz z (((a47.2.2.2.2.1 + 1) + 1) + 1) (((a47.2.2.2.2.2 + 6) + 6) + 6)) (dw_zX X) (dw_zA hA) (dw_zb hb) (dw_zD hD) dw_z0 (dw_zM eMC eMS) dL_law_851 (fun Q h => dw_m_L_walk hD hst h) dw_y_L_walk _ dw_w1071 rfl ⟨dw_zf hfr rfl, dw_zl hlo rfl⟩ (Nat.le_of_ble_eq_true rfl) rfl (fun r60 => ?_)
                    show dw_Rf (tw_cz z ((((a47.2.2.2.2.1 + 1) + 1) + 1) + 1) ((((a47.2.2.2.2.2 + 6) + 6) + 6) + 6)) b _ r60.2 _ [(1, .int a47.1), (3, .ref (b + 0)), (0, .ref bs), (2, .int x2)] [.int r60.1]
                    refine e_ldcI (z := tw_cz z ((((a47.2.2.2.2.1 + 1) + 1) + 1) + 1) ((((a47.2.2.2.2.2 + 6) + 6) + 6) + 6)) (dw_zX X) dL_law_854 (v := (-2000000097 : Int32)) _ dw_w1070 ?_
                    refine e_icmp_ne (z := tw_cz z ((((a47.2.2.2.2.1 + 1) + 1) + 1) + 1) ((((a47.2.2.2.2.2 + 6) + 6) + 6) + 6)) (dw_zX X) dL_law_856 (tgt := 899) (by decide) ?_ ?_
                    ·
                      exact dw_Rf.sub [2, 3] rfl (hj56 (r60.2, ((((a47.2.2.2.2.1 + 1) + 1) + 1) + 1), ((((a47.2.2.2.2.2 + 6) + 6) + 6) + 6)))
                    ·
                      refine e_aload_n (z := tw_cz z ((((a47.2.2.2.2.1 + 1) + 1) + 1) + 1) ((((a47.2.2.2.2.2 + 6) + 6) + 6) + 6)) (dw_zX X) dL_law_859 rfl 1 rfl ?_
                      refine e_iconst (z := tw_cz z ((((a47.2.2.2.2.1 + 1) + 1) + 1) + 1) ((((a47.2.2.2.2.2 + 6) + 6) + 6) + 6)) (dw_zX X) dL_law_860 (v := (-1 : Int32)) (by decide) ?_
                      refine e_iconst (z := tw_cz z ((((a47.2.2.2.2.1 + 1) + 1) + 1) + 1) ((((a47.2.2.2.2.2 + 6) + 6) + 6) + 6)) (dw_zX X) dL_law_861 (v := (0 : Int32)) (by decide) ?_
                      refine e_iconst (z := tw_cz z ((((a47.2.2.2.2.1 + 1) + 1) + 1) + 1) ((((a47.2.2.2.2.2 + 6) + 6) + 6) + 6)) (dw_zX X) dL_law_862 (v := (0 : Int32)) (by decide) ?_
                      refine e_callW (c := ((((a47.2.2.2.2.1 + 1) + 1) + 1) + 1)) (s := ((((a47.2.2.2.2.2 + 6) + 6) + 6) + 6)) (As := [.ref (b + 0), .int (-1 : Int32), .int (0 : Int32), .int (0 : Int32)]) (z := tw_cz z ((((a47.2.2.2.2.1 + 1) + 1) + 1) + 1) ((((a47.2.2.2.2.2 + 6) + 6) + 6) + 6)) (dw_zX X) (dw_zA hA) (dw_zb hb) (dw_zD hD) dw_z0 (dw_zM eMC eMS) dL_law_863 (fun Q h => dw_m_L_starts hD hst h) dw_y_L_starts _ dw_w1127 rfl ⟨dw_zf hfr rfl, dw_zl hlo rfl⟩ (Nat.le_of_ble_eq_true rfl) rfl (fun r61 => ?_)
                      show dw_Rf (tw_cz z (((((a47.2.2.2.2.1 + 1) + 1) + 1) + 1) + 1) (((((a47.2.2.2.2.2 + 6) + 6) + 6) + 6) + 6)) b _ r61.2 _ [(1, .int a47.1), (3, .ref (b + 0)), (0, .ref bs), (2, .int x2)] [.int r61.1]
                      refine e_ldcI (z := tw_cz z (((((a47.2.2.2.2.1 + 1) + 1) + 1) + 1) + 1) (((((a47.2.2.2.2.2 + 6) + 6) + 6) + 6) + 6)) (dw_zX X) dL_law_866 (v := (-2000000097 : Int32)) _ dw_w1070 ?_
                      refine e_icmp_ne (z := tw_cz z (((((a47.2.2.2.2.1 + 1) + 1) + 1) + 1) + 1) (((((a47.2.2.2.2.2 + 6) + 6) + 6) + 6) + 6)) (dw_zX X) dL_law_868 (tgt := 899) (by decide) ?_ ?_
                      ·
                        exact dw_Rf.sub [2, 3] rfl (hj56 (r61.2, (((((a47.2.2.2.2.1 + 1) + 1) + 1) + 1) + 1), (((((a47.2.2.2.2.2 + 6) + 6) + 6) + 6) + 6)))
                      ·
                        refine e_aload_n (z := tw_cz z (((((a47.2.2.2.2.1 + 1) + 1) + 1) + 1) + 1) (((((a47.2.2.2.2.2 + 6) + 6) + 6) + 6) + 6)) (dw_zX X) dL_law_871 rfl 1 rfl ?_
                        refine e_iconst (z := tw_cz z (((((a47.2.2.2.2.1 + 1) + 1) + 1) + 1) + 1) (((((a47.2.2.2.2.2 + 6) + 6) + 6) + 6) + 6)) (dw_zX X) dL_law_872 (v := (0 : Int32)) (by decide) ?_
                        refine e_bipush (z := tw_cz z (((((a47.2.2.2.2.1 + 1) + 1) + 1) + 1) + 1) (((((a47.2.2.2.2.2 + 6) + 6) + 6) + 6) + 6)) (dw_zX X) dL_law_873 (v := (20 : Int32)) (by decide) ?_
                        refine e_callW (c := (((((a47.2.2.2.2.1 + 1) + 1) + 1) + 1) + 1)) (s := (((((a47.2.2.2.2.2 + 6) + 6) + 6) + 6) + 6)) (As := [.ref (b + 0), .int (0 : Int32), .int (20 : Int32)]) (z := tw_cz z (((((a47.2.2.2.2.1 + 1) + 1) + 1) + 1) + 1) (((((a47.2.2.2.2.2 + 6) + 6) + 6) + 6) + 6)) (dw_zX X) (dw_zA hA) (dw_zb hb) (dw_zD hD) dw_z0 (dw_zM eMC eMS) dL_law_875 (fun Q h => dw_m_L_part hD hst h) dw_y_L_part _ dw_w1166 rfl ⟨dw_zf hfr rfl, dw_zl hlo rfl⟩ (Nat.le_of_ble_eq_true rfl) rfl (fun r62 => ?_)
                        show dw_Rf (tw_cz z ((((((a47.2.2.2.2.1 + 1) + 1) + 1) + 1) + 1) + 1) ((((((a47.2.2.2.2.2 + 6) + 6) + 6) + 6) + 6) + 6)) b _ r62.2 _ [(1, .int a47.1), (3, .ref (b + 0)), (0, .ref bs), (2, .int x2)] [.int r62.1]
                        refine e_ldcI (z := tw_cz z ((((((a47.2.2.2.2.1 + 1) + 1) + 1) + 1) + 1) + 1) ((((((a47.2.2.2.2.2 + 6) + 6) + 6) + 6) + 6) + 6)) (dw_zX X) dL_law_878 (v := (-2000000097 : Int32)) _ dw_w1070 ?_
                        refine e_icmp_ne (z := tw_cz z ((((((a47.2.2.2.2.1 + 1) + 1) + 1) + 1) + 1) + 1) ((((((a47.2.2.2.2.2 + 6) + 6) + 6) + 6) + 6) + 6)) (dw_zX X) dL_law_880 (tgt := 899) (by decide) ?_ ?_
                        ·
                          exact dw_Rf.sub [2, 3] rfl (hj56 (r62.2, ((((((a47.2.2.2.2.1 + 1) + 1) + 1) + 1) + 1) + 1), ((((((a47.2.2.2.2.2 + 6) + 6) + 6) + 6) + 6) + 6)))
                        ·
                          refine e_aload_n (z := tw_cz z ((((((a47.2.2.2.2.1 + 1) + 1) + 1) + 1) + 1) + 1) ((((((a47.2.2.2.2.2 + 6) + 6) + 6) + 6) + 6) + 6)) (dw_zX X) dL_law_883 rfl 1 rfl ?_
                          refine e_bipush (z := tw_cz z ((((((a47.2.2.2.2.1 + 1) + 1) + 1) + 1) + 1) + 1) ((((((a47.2.2.2.2.2 + 6) + 6) + 6) + 6) + 6) + 6)) (dw_zX X) dL_law_884 (v := (20 : Int32)) (by decide) ?_
                          refine e_iconst (z := tw_cz z ((((((a47.2.2.2.2.1 + 1) + 1) + 1) + 1) + 1) + 1) ((((((a47.2.2.2.2.2 + 6) + 6) + 6) + 6) + 6) + 6)) (dw_zX X) dL_law_886 (v := (0 : Int32)) (by decide) ?_
                          refine e_callW (c := ((((((a47.2.2.2.2.1 + 1) + 1) + 1) + 1) + 1) + 1)) (s := ((((((a47.2.2.2.2.2 + 6) + 6) + 6) + 6) + 6) + 6)) (As := [.ref (b + 0), .int (20 : Int32), .int (0 : Int32)]) (z := tw_cz z ((((((a47.2.2.2.2.1 + 1) + 1) + 1) + 1) + 1) + 1) ((((((a47.2.2.2.2.2 + 6) + 6) + 6) + 6) + 6) + 6)) (dw_zX X) (dw_zA hA) (dw_zb hb) (dw_zD hD) dw_z0 (dw_zM eMC eMS) dL_law_887 (fun Q h => dw_m_L_distance hD hst h) dw_y_L_distance _ dw_w1138 rfl ⟨dw_zf hfr rfl, dw_zl hlo rfl⟩ (Nat.le_of_ble_eq_true rfl) rfl (fun r63 => ?_)
                          show dw_Rf (tw_cz z (((((((a47.2.2.2.2.1 + 1) + 1) + 1) + 1) + 1) + 1) + 1) (((((((a47.2.2.2.2.2 + 6) + 6) + 6) + 6) + 6) + 6) + 6)) b _ r63.2 _ [(1, .int a47.1), (3, .ref (b + 0)), (0, .ref bs), (2, .int x2)] [.int r63.1]
                          refine e_ldcI (z := tw_cz z (((((((a47.2.2.2.2.1 + 1) + 1) + 1) + 1) + 1) + 1) + 1) (((((((a47.2.2.2.2.2 + 6) + 6) + 6) + 6) + 6) + 6) + 6)) (dw_zX X) dL_law_890 (v := (-2000000097 : Int32)) _ dw_w1070 ?_
                          refine e_icmp_ne (z := tw_cz z (((((((a47.2.2.2.2.1 + 1) + 1) + 1) + 1) + 1) + 1) + 1) (((((((a47.2.2.2.2.2 + 6) + 6) + 6) + 6) + 6) + 6) + 6)) (dw_zX X) dL_law_892 (tgt := 899) (by decide) ?_ ?_
                          ·
                            exact dw_Rf.sub [2, 3] rfl (hj56 (r63.2, (((((((a47.2.2.2.2.1 + 1) + 1) + 1) + 1) + 1) + 1) + 1), (((((((a47.2.2.2.2.2 + 6) + 6) + 6) + 6) + 6) + 6) + 6)))
                          ·
                            refine e_iconst (z := tw_cz z (((((((a47.2.2.2.2.1 + 1) + 1) + 1) + 1) + 1) + 1) + 1) (((((((a47.2.2.2.2.2 + 6) + 6) + 6) + 6) + 6) + 6) + 6)) (dw_zX X) dL_law_895 (v := (1 : Int32)) (by decide) ?_
                            refine e_goto (z := tw_cz z (((((((a47.2.2.2.2.1 + 1) + 1) + 1) + 1) + 1) + 1) + 1) (((((((a47.2.2.2.2.2 + 6) + 6) + 6) + 6) + 6) + 6) + 6)) (dw_zX X) dL_law_896 (tgt := 900) (by decide) ?_
                            exact dw_Rf.sub [2, 3] rfl (hj52 ((1 : Int32), r63.2, (((((((a47.2.2.2.2.1 + 1) + 1) + 1) + 1) + 1) + 1) + 1), (((((((a47.2.2.2.2.2 + 6) + 6) + 6) + 6) + 6) + 6) + 6)))
          refine e_icmp_ge (z := tw_cz z a47.2.2.2.2.1 a47.2.2.2.2.2) (dw_zX X) dL_law_762 (tgt := 807) (by decide) ?_ ?_
          ·
            exact dw_Rf.sub [3, 4, 5, 6] rfl (hj50 ())
          ·
            refine e_iload (z := tw_cz z a47.2.2.2.2.1 a47.2.2.2.2.2) (dw_zX X) dL_law_765 0 rfl ?_
            refine e_iload (z := tw_cz z a47.2.2.2.2.1 a47.2.2.2.2.2) (dw_zX X) dL_law_767 1 rfl ?_
            refine e_icmp_ge (z := tw_cz z a47.2.2.2.2.1 a47.2.2.2.2.2) (dw_zX X) dL_law_769 (tgt := 807) (by decide) ?_ ?_
            ·
              exact dw_Rf.sub [3, 4, 5, 6] rfl (hj50 ())
            ·
              refine e_iload_n (z := tw_cz z a47.2.2.2.2.1 a47.2.2.2.2.2) (dw_zX X) dL_law_772 rfl 3 rfl ?_
              refine e_if_eq (z := tw_cz z a47.2.2.2.2.1 a47.2.2.2.2.2) (dw_zX X) dL_law_773 (tgt := 807) (by decide) ?_ ?_
              ·
                exact dw_Rf.sub [3, 4, 5, 6] rfl (hj50 ())
              ·
                refine e_aload_n (z := tw_cz z a47.2.2.2.2.1 a47.2.2.2.2.2) (dw_zX X) dL_law_776 rfl 4 rfl ?_
                refine e_cls (e := tw_P_X11_undo n (dw_s a47.2.2.2.1)) (rv := fun r => some (.int r.1)) (σ' := fun r => r.2) (As := []) (z := tw_cz z a47.2.2.2.2.1 a47.2.2.2.2.2) (dw_zX X) (dw_zb hb) ⟨rfl, rfl⟩ ⟨eMC, eMS⟩ dL_law_777 (fun r h => tw_m_X11_undo h) tw_y_X11_undo tw_v_X11_undo _ dw_w500 rfl ⟨rfl, rfl, tw_le hfr rfl, tw_le hlo rfl⟩ (Nat.le_of_ble_eq_true rfl) rfl (fun r64 => ?_)
                show dw_Rf (tw_cz z a47.2.2.2.2.1 a47.2.2.2.2.2) b _ (dw_cs a47.2.2.2.1 r64.2) _ [(9, .int a47.2.2.1), (8, .int a47.2.1), (7, .ref (b + q38)), (1, .int a47.1), (3, .ref (b + 0)), (0, .ref bs), (2, .int x2)] [.int r64.1]
                refine e_jn (α := Int32 × dw_S × Nat × Nat) (zJ := fun a65 => tw_cz z a65.2.2.1 a65.2.2.2) (YJ := fun a65 => a65.2.1) (pcJ := 800) (LJ := fun a65 => [(9, .int a47.2.2.1), (8, .int a47.2.1), (7, .ref (b + q38)), (3, .ref (b + 0)), (0, .ref bs), (2, .int x2)]) (stJ := fun a65 => [.int a65.1]) (fun a65 => ?_) (fun j66 hj66 => ?_)
                ·
                  refine e_istore_n (z := tw_cz z a65.2.2.1 a65.2.2.2) (dw_zX X) dL_law_800 rfl (by decide) (LL := fun v67 => [(1, .int v67), (9, .int a47.2.2.1), (8, .int a47.2.1), (7, .ref (b + q38)), (3, .ref (b + 0)), (0, .ref bs), (2, .int x2)]) (fun _ => rfl) (fun v67 => ?_)
                  refine e_iinc (z := tw_cz z a65.2.2.1 a65.2.2.2) (dw_zX X) dL_law_801 1 rfl (v := (1 : Int32)) (by decide) (by decide) (LL := fun v68 => [(9, .int v68), (1, .int v67), (8, .int a47.2.1), (7, .ref (b + q38)), (3, .ref (b + 0)), (0, .ref bs), (2, .int x2)]) (fun _ => rfl) (fun v68 => ?_)
                  refine e_goto (z := tw_cz z a65.2.2.1 a65.2.2.2) (dw_zX X) dL_law_804 (tgt := 758) (by decide) ?_
                  exact dw_Rf.sub [0, 2, 3, 1, 4, 5, 6] rfl (hk48 (v67, a47.2.1, v68, a65.2.1, a65.2.2.1, a65.2.2.2))
                refine e_jn (α := dw_S × Nat × Nat) (zJ := fun a69 => tw_cz z a69.2.1 a69.2.2) (YJ := fun a69 => a69.1) (pcJ := 799) (LJ := fun a69 => [(9, .int a47.2.2.1), (8, .int a47.2.1), (7, .ref (b + q38)), (3, .ref (b + 0)), (0, .ref bs), (2, .int x2)]) (stJ := fun a69 => []) (fun a69 => ?_) (fun j70 hj70 => ?_)
                ·
                  refine e_iconst (z := tw_cz z a69.2.1 a69.2.2) (dw_zX X) dL_law_799 (v := (0 : Int32)) (by decide) ?_
                  exact hj66 ((0 : Int32), a69.1, a69.2.1, a69.2.2)
                refine e_if_lt (z := tw_cz z a47.2.2.2.2.1 a47.2.2.2.2.2) (dw_zX X) dL_law_780 (tgt := 799) (by decide) ?_ ?_
                ·
                  exact dw_Rf.sub [0, 1, 2, 4, 5, 6] rfl (hj70 ((dw_cs a47.2.2.2.1 r64.2), a47.2.2.2.2.1, a47.2.2.2.2.2))
                ·
                  refine e_aload_n (z := tw_cz z a47.2.2.2.2.1 a47.2.2.2.2.2) (dw_zX X) dL_law_783 rfl 4 rfl ?_
                  refine e_aload (z := tw_cz z a47.2.2.2.2.1 a47.2.2.2.2.2) (dw_zX X) dL_law_784 2 rfl ?_
                  refine e_iload (z := tw_cz z a47.2.2.2.2.1 a47.2.2.2.2.2) (dw_zX X) dL_law_786 0 rfl ?_
                  refine e_aald (k := q38) (kd := 25) (a := 8) (ty := .object "TreasureWalkLaw$Island") (z := tw_cz z a47.2.2.2.2.1 a47.2.2.2.2.2) (dw_zX X) dL_law_788 (by decide) (fun h => dw_E25 h) rfl rfl ?_
                  refine e_nn (r := (dw_r (dw_cs a47.2.2.2.1 r64.2) q38 (Int32.toNatClampNeg a47.2.2.1))) (LL := fun _ => [(9, .int a47.2.2.1), (8, .int a47.2.1), (7, .ref (b + q38)), (1, .int a47.1), (3, .ref (b + 0)), (0, .ref bs), (2, .int x2)]) (SS := fun q => dw_v b q :: [.ref (b + 0)]) (fun r71 => ?_)
                  show dw_Rf (tw_cz z a47.2.2.2.2.1 a47.2.2.2.2.2) b _ (dw_cs a47.2.2.2.1 r64.2) _ [(9, .int a47.2.2.1), (8, .int a47.2.1), (7, .ref (b + q38)), (1, .int a47.1), (3, .ref (b + 0)), (0, .ref bs), (2, .int x2)] [.ref (b + r71), .ref (b + 0)]
                  refine e_callS (c := a47.2.2.2.2.1) (s := a47.2.2.2.2.2) (As := [.ref (b + 0), .ref (b + r71)]) (z := tw_cz z a47.2.2.2.2.1 a47.2.2.2.2.2) (dw_zX X) (dw_zA hA) (dw_zb hb) (dw_zD hD) dw_z0 (dw_zM eMC eMS) dL_law_789 (fun Q h => dw_m_L_agrees hD hst h) dw_y_L_agrees dw_v_L_agrees _ dw_w1542 rfl ⟨dw_zf hfr rfl, dw_zl hlo rfl⟩ (Nat.le_of_ble_eq_true rfl) rfl (fun r72 => ?_)
                  show dw_Rf (tw_cz z (a47.2.2.2.2.1 + 1457) (a47.2.2.2.2.2 + 117018)) b _ r72.2 _ [(9, .int a47.2.2.1), (8, .int a47.2.1), (7, .ref (b + q38)), (1, .int a47.1), (3, .ref (b + 0)), (0, .ref bs), (2, .int x2)] [.int r72.1]
                  refine e_if_eq (z := tw_cz z (a47.2.2.2.2.1 + 1457) (a47.2.2.2.2.2 + 117018)) (dw_zX X) dL_law_792 (tgt := 799) (by decide) ?_ ?_
                  ·
                    exact dw_Rf.sub [0, 1, 2, 4, 5, 6] rfl (hj70 (r72.2, (a47.2.2.2.2.1 + 1457), (a47.2.2.2.2.2 + 117018)))
                  ·
                    refine e_iconst (z := tw_cz z (a47.2.2.2.2.1 + 1457) (a47.2.2.2.2.2 + 117018)) (dw_zX X) dL_law_795 (v := (1 : Int32)) (by decide) ?_
                    refine e_goto (z := tw_cz z (a47.2.2.2.2.1 + 1457) (a47.2.2.2.2.2 + 117018)) (dw_zX X) dL_law_796 (tgt := 800) (by decide) ?_
                    exact dw_Rf.sub [0, 1, 2, 4, 5, 6] rfl (hj66 ((1 : Int32), r72.2, (a47.2.2.2.2.1 + 1457), (a47.2.2.2.2.2 + 117018)))
        refine e_icmp_ge (z := tw_cz z a42.2.2.2.2.1 a42.2.2.2.2.2) (dw_zX X) dL_law_209 (tgt := 755) (by decide) ?_ ?_
        ·
          exact dw_Rf.sub [1, 2, 3, 6, 7, 8] rfl (hj45 ())
        ·
          refine e_iload_n (z := tw_cz z a42.2.2.2.2.1 a42.2.2.2.2.2) (dw_zX X) dL_law_212 rfl 3 rfl ?_
          refine e_if_eq (z := tw_cz z a42.2.2.2.2.1 a42.2.2.2.2.2) (dw_zX X) dL_law_213 (tgt := 755) (by decide) ?_ ?_
          ·
            exact dw_Rf.sub [1, 2, 3, 6, 7, 8] rfl (hj45 ())
          ·
            refine e_aload (z := tw_cz z a42.2.2.2.2.1 a42.2.2.2.2.2) (dw_zX X) dL_law_216 4 rfl ?_
            refine e_callV (k := r34) (ci := 13) (Cn := "TreasureWalkLaw$Island") (T := TX13) (N := 13) (c := a42.2.2.2.2.1) (s := a42.2.2.2.2.2) (As := []) (z := tw_cz z a42.2.2.2.2.1 a42.2.2.2.2.2) (dw_zX X) (dw_zA hA) (dw_zb hb) (dw_zD hD) dw_z0 (dw_zM eMC eMS) dL_law_218 (fun Q h => dw_m_X13_copy (dw_zD hD) h) dw_y_X13_copy dw_v_X13_copy _ dw_w642 (by decide) rfl (fun h => dw_E13 h) rfl ⟨dw_zf hfr rfl, dw_zl hlo rfl⟩ (Nat.le_of_ble_eq_true rfl) rfl (fun r73 => ?_)
            show dw_Rf (tw_cz z (a42.2.2.2.2.1 + 21) (a42.2.2.2.2.2 + 86)) b _ r73.2 _ [(9, .int a42.2.2.1), (8, .int a42.2.1), (7, .ref (b + q38)), (1, .int a42.1), (6, .ref (b + r34)), (5, .ref (b + q23)), (3, .ref (b + 0)), (0, .ref bs), (2, .int x2)] [.ref (b + r73.1)]
            refine e_astore (z := tw_cz z (a42.2.2.2.2.1 + 21) (a42.2.2.2.2.2 + 86)) (dw_zX X) dL_law_221 (by decide) (L' := [(10, .ref (b + r73.1)), (9, .int a42.2.2.1), (8, .int a42.2.1), (7, .ref (b + q38)), (1, .int a42.1), (6, .ref (b + r34)), (5, .ref (b + q23)), (3, .ref (b + 0)), (0, .ref bs), (2, .int x2)]) rfl ?_
            refine e_iconst (z := tw_cz z (a42.2.2.2.2.1 + 21) (a42.2.2.2.2.2 + 86)) (dw_zX X) dL_law_223 (v := (1 : Int32)) (by decide) ?_
            refine e_istore (z := tw_cz z (a42.2.2.2.2.1 + 21) (a42.2.2.2.2.2 + 86)) (dw_zX X) dL_law_224 (by decide) (LL := fun v74 => [(11, .int v74), (10, .ref (b + r73.1)), (9, .int a42.2.2.1), (8, .int a42.2.1), (7, .ref (b + q38)), (1, .int a42.1), (6, .ref (b + r34)), (5, .ref (b + q23)), (3, .ref (b + 0)), (0, .ref bs), (2, .int x2)]) (fun _ => rfl) (fun v74 => ?_)
            refine e_aload (z := tw_cz z (a42.2.2.2.2.1 + 21) (a42.2.2.2.2.2 + 86)) (dw_zX X) dL_law_226 6 rfl ?_
            refine e_getf (ci := 13) (T := TX13) (f := 0) (k := r34) (z := tw_cz z (a42.2.2.2.2.1 + 21) (a42.2.2.2.2.2 + 86)) (dw_zX X) dL_law_228 (Or.inl ⟨_, dw_w591⟩) dw_in13 rfl (by decide) (by decide) (fun h => dw_E13 h) rfl ?_
            refine e_aload (z := tw_cz z (a42.2.2.2.2.1 + 21) (a42.2.2.2.2.2 + 86)) (dw_zX X) dL_law_231 6 rfl ?_
            refine e_getf (ci := 13) (T := TX13) (f := 1) (k := r34) (z := tw_cz z (a42.2.2.2.2.1 + 21) (a42.2.2.2.2.2 + 86)) (dw_zX X) dL_law_233 (Or.inl ⟨_, dw_w593⟩) dw_in13 rfl (by decide) (by decide) (fun h => dw_E13 h) rfl ?_
            refine e_imul (z := tw_cz z (a42.2.2.2.2.1 + 21) (a42.2.2.2.2.2 + 86)) (dw_zX X) dL_law_236 ?_
            refine e_istore (z := tw_cz z (a42.2.2.2.2.1 + 21) (a42.2.2.2.2.2 + 86)) (dw_zX X) dL_law_237 (by decide) (LL := fun v75 => [(12, .int v75), (11, .int v74), (10, .ref (b + r73.1)), (9, .int a42.2.2.1), (8, .int a42.2.1), (7, .ref (b + q38)), (1, .int a42.1), (6, .ref (b + r34)), (5, .ref (b + q23)), (3, .ref (b + 0)), (0, .ref bs), (2, .int x2)]) (fun _ => rfl) (fun v75 => ?_)
            refine e_aload (z := tw_cz z (a42.2.2.2.2.1 + 21) (a42.2.2.2.2.2 + 86)) (dw_zX X) dL_law_239 8 rfl ?_
            refine e_bipush (z := tw_cz z (a42.2.2.2.2.1 + 21) (a42.2.2.2.2.2 + 86)) (dw_zX X) dL_law_241 (v := (6 : Int32)) (by decide) ?_
            refine e_callV (k := q23) (ci := 15) (Cn := "TreasureWalkLaw$Random") (T := TX15) (N := 1) (c := (a42.2.2.2.2.1 + 21)) (s := (a42.2.2.2.2.2 + 86)) (As := [.int (6 : Int32)]) (z := tw_cz z (a42.2.2.2.2.1 + 21) (a42.2.2.2.2.2 + 86)) (dw_zX X) (dw_zA hA) (dw_zb hb) (dw_zD hD) dw_z0 (dw_zM eMC eMS) dL_law_243 (fun Q h => dw_m_X15_below (dw_zD hD) h) dw_y_X15_below dw_v_X15_below _ dw_w743 (by decide) rfl (fun h => dw_E15 h) rfl ⟨dw_zf hfr rfl, dw_zl hlo rfl⟩ (Nat.le_of_ble_eq_true rfl) rfl (fun r76 => ?_)
            show dw_Rf (tw_cz z (a42.2.2.2.2.1 + 21) (a42.2.2.2.2.2 + 86)) b _ r76.2 _ [(12, .int v75), (11, .int v74), (10, .ref (b + r73.1)), (9, .int a42.2.2.1), (8, .int a42.2.1), (7, .ref (b + q38)), (1, .int a42.1), (6, .ref (b + r34)), (5, .ref (b + q23)), (3, .ref (b + 0)), (0, .ref bs), (2, .int x2)] [.int r76.1]
            refine e_jn (α := Int32 × Int32 × dw_S × Nat × Nat) (zJ := fun a77 => tw_cz z a77.2.2.2.1 a77.2.2.2.2) (YJ := fun a77 => a77.2.2.1) (pcJ := 689) (LJ := fun a77 => [(11, .int a77.2.1), (10, .ref (b + r73.1)), (9, .int a42.2.2.1), (8, .int a42.2.1), (7, .ref (b + q38)), (1, .int a77.1), (6, .ref (b + r34)), (5, .ref (b + q23)), (3, .ref (b + 0)), (0, .ref bs), (2, .int x2)]) (stJ := fun a77 => []) (fun a77 => ?_) (fun j78 hj78 => ?_)
            ·
              refine e_iload (z := tw_cz z a77.2.2.2.1 a77.2.2.2.2) (dw_zX X) dL_law_689 0 rfl ?_
              refine e_jn (α := Int32 × Int32 × dw_S) (zJ := fun a79 => tw_cz z a77.2.2.2.1 a77.2.2.2.2) (YJ := fun a79 => a79.2.2) (pcJ := 730) (LJ := fun a79 => [(9, .int a79.2.1), (8, .int a79.1), (7, .ref (b + q38)), (1, .int a77.1), (6, .ref (b + r34)), (5, .ref (b + q23)), (3, .ref (b + 0)), (0, .ref bs), (2, .int x2)]) (stJ := fun a79 => []) (fun a79 => ?_) (fun j80 hj80 => ?_)
              ·
                refine e_iload_n (z := tw_cz z a77.2.2.2.1 a77.2.2.2.2) (dw_zX X) dL_law_730 rfl 3 rfl ?_
                refine e_jn (α := Int32 × dw_S × Nat × Nat) (zJ := fun a81 => tw_cz z a81.2.2.1 a81.2.2.2) (YJ := fun a81 => a81.2.1) (pcJ := 748) (LJ := fun a81 => [(9, .int a79.2.1), (8, .int a79.1), (7, .ref (b + q38)), (6, .ref (b + r34)), (5, .ref (b + q23)), (3, .ref (b + 0)), (0, .ref bs), (2, .int x2)]) (stJ := fun a81 => [.int a81.1]) (fun a81 => ?_) (fun j82 hj82 => ?_)
                ·
                  refine e_istore_n (z := tw_cz z a81.2.2.1 a81.2.2.2) (dw_zX X) dL_law_748 rfl (by decide) (LL := fun v83 => [(1, .int v83), (9, .int a79.2.1), (8, .int a79.1), (7, .ref (b + q38)), (6, .ref (b + r34)), (5, .ref (b + q23)), (3, .ref (b + 0)), (0, .ref bs), (2, .int x2)]) (fun _ => rfl) (fun v83 => ?_)
                  refine e_iinc (z := tw_cz z a81.2.2.1 a81.2.2.2) (dw_zX X) dL_law_749 1 rfl (v := (1 : Int32)) (by decide) (by decide) (LL := fun v84 => [(9, .int v84), (1, .int v83), (8, .int a79.1), (7, .ref (b + q38)), (6, .ref (b + r34)), (5, .ref (b + q23)), (3, .ref (b + 0)), (0, .ref bs), (2, .int x2)]) (fun _ => rfl) (fun v84 => ?_)
                  refine e_goto (z := tw_cz z a81.2.2.1 a81.2.2.2) (dw_zX X) dL_law_752 (tgt := 205) (by decide) ?_
                  exact dw_Rf.sub [0, 2, 3, 1, 4, 5, 6, 7, 8] rfl (hk43 (v83, a79.1, v84, a81.2.1, a81.2.2.1, a81.2.2.2))
                refine e_jn (α := dw_S × Nat × Nat) (zJ := fun a85 => tw_cz z a85.2.1 a85.2.2) (YJ := fun a85 => a85.1) (pcJ := 747) (LJ := fun a85 => [(9, .int a79.2.1), (8, .int a79.1), (7, .ref (b + q38)), (6, .ref (b + r34)), (5, .ref (b + q23)), (3, .ref (b + 0)), (0, .ref bs), (2, .int x2)]) (stJ := fun a85 => []) (fun a85 => ?_) (fun j86 hj86 => ?_)
                ·
                  refine e_iconst (z := tw_cz z a85.2.1 a85.2.2) (dw_zX X) dL_law_747 (v := (0 : Int32)) (by decide) ?_
                  exact hj82 ((0 : Int32), a85.1, a85.2.1, a85.2.2)
                refine e_if_eq (z := tw_cz z a77.2.2.2.1 a77.2.2.2.2) (dw_zX X) dL_law_731 (tgt := 747) (by decide) ?_ ?_
                ·
                  exact dw_Rf.sub [0, 1, 2, 4, 5, 6, 7, 8] rfl (hj86 (a79.2.2, a77.2.2.2.1, a77.2.2.2.2))
                ·
                  refine e_aload_n (z := tw_cz z a77.2.2.2.1 a77.2.2.2.2) (dw_zX X) dL_law_734 rfl 6 rfl ?_
                  refine e_aload (z := tw_cz z a77.2.2.2.1 a77.2.2.2.2) (dw_zX X) dL_law_735 4 rfl ?_
                  refine e_callS (c := a77.2.2.2.1) (s := a77.2.2.2.2) (As := [.ref (b + 0), .ref (b + r34)]) (z := tw_cz z a77.2.2.2.1 a77.2.2.2.2) (dw_zX X) (dw_zA hA) (dw_zb hb) (dw_zD hD) dw_z0 (dw_zM eMC eMS) dL_law_737 (fun Q h => dw_m_L_agrees hD hst h) dw_y_L_agrees dw_v_L_agrees _ dw_w1542 rfl ⟨dw_zf hfr rfl, dw_zl hlo rfl⟩ (Nat.le_of_ble_eq_true rfl) rfl (fun r87 => ?_)
                  show dw_Rf (tw_cz z (a77.2.2.2.1 + 1457) (a77.2.2.2.2 + 117018)) b _ r87.2 _ [(9, .int a79.2.1), (8, .int a79.1), (7, .ref (b + q38)), (1, .int a77.1), (6, .ref (b + r34)), (5, .ref (b + q23)), (3, .ref (b + 0)), (0, .ref bs), (2, .int x2)] [.int r87.1]
                  refine e_if_eq (z := tw_cz z (a77.2.2.2.1 + 1457) (a77.2.2.2.2 + 117018)) (dw_zX X) dL_law_740 (tgt := 747) (by decide) ?_ ?_
                  ·
                    exact dw_Rf.sub [0, 1, 2, 4, 5, 6, 7, 8] rfl (hj86 (r87.2, (a77.2.2.2.1 + 1457), (a77.2.2.2.2 + 117018)))
                  ·
                    refine e_iconst (z := tw_cz z (a77.2.2.2.1 + 1457) (a77.2.2.2.2 + 117018)) (dw_zX X) dL_law_743 (v := (1 : Int32)) (by decide) ?_
                    refine e_goto (z := tw_cz z (a77.2.2.2.1 + 1457) (a77.2.2.2.2 + 117018)) (dw_zX X) dL_law_744 (tgt := 748) (by decide) ?_
                    exact dw_Rf.sub [0, 1, 2, 4, 5, 6, 7, 8] rfl (hj82 ((1 : Int32), r87.2, (a77.2.2.2.1 + 1457), (a77.2.2.2.2 + 117018)))
              refine e_if_eq (z := tw_cz z a77.2.2.2.1 a77.2.2.2.2) (dw_zX X) dL_law_691 (tgt := 730) (by decide) ?_ ?_
              ·
                exact dw_Rf.sub [2, 3, 4, 5, 6, 7, 8, 9, 10] rfl (hj80 (a42.2.1, a42.2.2.1, a77.2.2.1))
              ·
                refine e_bipush (z := tw_cz z a77.2.2.2.1 a77.2.2.2.2) (dw_zX X) dL_law_694 (v := (8 : Int32)) (by decide) ?_
                refine e_istore (z := tw_cz z a77.2.2.2.1 a77.2.2.2.2) (dw_zX X) dL_law_696 (by decide) (LL := fun v88 => [(13, .int v88), (11, .int a77.2.1), (10, .ref (b + r73.1)), (9, .int a42.2.2.1), (8, .int a42.2.1), (7, .ref (b + q38)), (1, .int a77.1), (6, .ref (b + r34)), (5, .ref (b + q23)), (3, .ref (b + 0)), (0, .ref bs), (2, .int x2)]) (fun _ => rfl) (fun v88 => ?_)
                refine dw_Rf.sub [0, 2, 3, 4, 5, 6, 7, 8, 9, 10, 11] rfl ?_
                refine e_lp (α := Int32 × Int32 × Int32 × dw_S) (zJ := fun a89 => tw_cz z a77.2.2.2.1 a77.2.2.2.2) (YJ := fun a89 => a89.2.2.2) (pcJ := 698) (LJ := fun a89 => [(13, .int a89.2.2.1), (10, .ref (b + r73.1)), (9, .int a89.2.1), (8, .int a89.1), (7, .ref (b + q38)), (1, .int a77.1), (6, .ref (b + r34)), (5, .ref (b + q23)), (3, .ref (b + 0)), (0, .ref bs), (2, .int x2)]) (stJ := fun a89 => []) (fun k90 hk90 a89 => ?_) n (a42.2.1, a42.2.2.1, v88, a77.2.2.1)
                refine e_iload (z := tw_cz z a77.2.2.2.1 a77.2.2.2.2) (dw_zX X) dL_law_698 0 rfl ?_
                refine e_if_le (z := tw_cz z a77.2.2.2.1 a77.2.2.2.2) (dw_zX X) dL_law_700 (tgt := 721) (by decide) ?_ ?_
                ·
                  refine e_aload (z := tw_cz z a77.2.2.2.1 a77.2.2.2.2) (dw_zX X) dL_law_721 4 rfl ?_
                  refine e_iconst (z := tw_cz z a77.2.2.2.1 a77.2.2.2.2) (dw_zX X) dL_law_723 (v := (0 : Int32)) (by decide) ?_
                  refine e_aload (z := tw_cz z a77.2.2.2.1 a77.2.2.2.2) (dw_zX X) dL_law_724 1 rfl ?_
                  show dw_Rf (tw_cz z a77.2.2.2.1 a77.2.2.2.2) b _ a89.2.2.2 _ [(13, .int a89.2.2.1), (10, .ref (b + r73.1)), (9, .int a89.2.1), (8, .int a89.1), (7, .ref (b + q38)), (1, .int a77.1), (6, .ref (b + r34)), (5, .ref (b + q23)), (3, .ref (b + 0)), (0, .ref bs), (2, .int x2)] (dw_v b (some r73.1) :: .int (0 : Int32) :: .ref (b + q38) :: [])
                  refine e_aast (k := q38) (kd := 25) (a := 8) (ci := 13) (rc := (RX13, TX13, 13)) (fs := fun v => dw_f13 b a89.2.2.2 v) (z := tw_cz z a77.2.2.2.1 a77.2.2.2.2) (dw_zX X) (dw_zb hb) dL_law_726 (by decide) (by decide) (fun Y h => dw_E25 h) rfl rfl (fun v h => dw_F13 h) (fun Y91 => ?_)
                  refine e_iinc (z := tw_cz z a77.2.2.2.1 a77.2.2.2.2) (dw_zX X) dL_law_727 3 rfl (v := (1 : Int32)) (by decide) (by decide) (LL := fun v92 => [(8, .int v92), (13, .int a89.2.2.1), (10, .ref (b + r73.1)), (9, .int a89.2.1), (7, .ref (b + q38)), (1, .int a77.1), (6, .ref (b + r34)), (5, .ref (b + q23)), (3, .ref (b + 0)), (0, .ref bs), (2, .int x2)]) (fun _ => rfl) (fun v92 => ?_)
                  exact dw_Rf.sub [3, 0, 4, 5, 6, 7, 8, 9, 10] rfl (hj80 (v92, a89.2.1, Y91))
                ·
                  refine e_aload (z := tw_cz z a77.2.2.2.1 a77.2.2.2.2) (dw_zX X) dL_law_703 4 rfl ?_
                  refine e_iload (z := tw_cz z a77.2.2.2.1 a77.2.2.2.2) (dw_zX X) dL_law_705 0 rfl ?_
                  refine e_aload (z := tw_cz z a77.2.2.2.1 a77.2.2.2.2) (dw_zX X) dL_law_707 4 rfl ?_
                  refine e_iload (z := tw_cz z a77.2.2.2.1 a77.2.2.2.2) (dw_zX X) dL_law_709 0 rfl ?_
                  refine e_iconst (z := tw_cz z a77.2.2.2.1 a77.2.2.2.2) (dw_zX X) dL_law_711 (v := (1 : Int32)) (by decide) ?_
                  refine e_isub (z := tw_cz z a77.2.2.2.1 a77.2.2.2.2) (dw_zX X) dL_law_712 ?_
                  refine e_aald (k := q38) (kd := 25) (a := 8) (ty := .object "TreasureWalkLaw$Island") (z := tw_cz z a77.2.2.2.1 a77.2.2.2.2) (dw_zX X) dL_law_713 (by decide) (fun h => dw_E25 h) rfl rfl ?_
                  show dw_Rf (tw_cz z a77.2.2.2.1 a77.2.2.2.2) b _ a89.2.2.2 _ [(13, .int a89.2.2.1), (10, .ref (b + r73.1)), (9, .int a89.2.1), (8, .int a89.1), (7, .ref (b + q38)), (1, .int a77.1), (6, .ref (b + r34)), (5, .ref (b + q23)), (3, .ref (b + 0)), (0, .ref bs), (2, .int x2)] (dw_v b (dw_r a89.2.2.2 q38 (Int32.toNatClampNeg (a89.2.2.1 - (1 : Int32)))) :: .int a89.2.2.1 :: .ref (b + q38) :: [])
                  refine e_aast (k := q38) (kd := 25) (a := 8) (ci := 13) (rc := (RX13, TX13, 13)) (fs := fun v => dw_f13 b a89.2.2.2 v) (z := tw_cz z a77.2.2.2.1 a77.2.2.2.2) (dw_zX X) (dw_zb hb) dL_law_714 (by decide) (by decide) (fun Y h => dw_E25 h) rfl rfl (fun v h => dw_F13 h) (fun Y93 => ?_)
                  refine e_iinc (z := tw_cz z a77.2.2.2.1 a77.2.2.2.2) (dw_zX X) dL_law_715 0 rfl (v := (-1 : Int32)) (by decide) (by decide) (LL := fun v94 => [(13, .int v94), (10, .ref (b + r73.1)), (9, .int a89.2.1), (8, .int a89.1), (7, .ref (b + q38)), (1, .int a77.1), (6, .ref (b + r34)), (5, .ref (b + q23)), (3, .ref (b + 0)), (0, .ref bs), (2, .int x2)]) (fun _ => rfl) (fun v94 => ?_)
                  refine e_goto (z := tw_cz z a77.2.2.2.1 a77.2.2.2.2) (dw_zX X) dL_law_718 (tgt := 698) (by decide) ?_
                  exact hk90 (a89.1, a89.2.1, v94, Y93)
            refine e_jn (α := Unit) (zJ := fun a95 => tw_cz z (a42.2.2.2.2.1 + 21) (a42.2.2.2.2.2 + 86)) (YJ := fun a95 => r76.2) (pcJ := 280) (LJ := fun a95 => [(12, .int v75), (10, .ref (b + r73.1)), (9, .int a42.2.2.1), (8, .int a42.2.1), (7, .ref (b + q38)), (6, .ref (b + r34)), (5, .ref (b + q23)), (3, .ref (b + 0)), (0, .ref bs), (2, .int x2)]) (stJ := fun a95 => []) (fun a95 => ?_) (fun j96 hj96 => ?_)
            ·
              refine e_aload (z := tw_cz z (a42.2.2.2.2.1 + 21) (a42.2.2.2.2.2 + 86)) (dw_zX X) dL_law_280 6 rfl ?_
              refine e_iload (z := tw_cz z (a42.2.2.2.2.1 + 21) (a42.2.2.2.2.2 + 86)) (dw_zX X) dL_law_282 0 rfl ?_
              refine e_callV (k := q23) (ci := 15) (Cn := "TreasureWalkLaw$Random") (T := TX15) (N := 1) (c := (a42.2.2.2.2.1 + 21)) (s := (a42.2.2.2.2.2 + 86)) (As := [.int v75]) (z := tw_cz z (a42.2.2.2.2.1 + 21) (a42.2.2.2.2.2 + 86)) (dw_zX X) (dw_zA hA) (dw_zb hb) (dw_zD hD) dw_z0 (dw_zM eMC eMS) dL_law_284 (fun Q h => dw_m_X15_below (dw_zD hD) h) dw_y_X15_below dw_v_X15_below _ dw_w743 (by decide) rfl (fun h => dw_E15 h) rfl ⟨dw_zf hfr rfl, dw_zl hlo rfl⟩ (Nat.le_of_ble_eq_true rfl) rfl (fun r97 => ?_)
              show dw_Rf (tw_cz z (a42.2.2.2.2.1 + 21) (a42.2.2.2.2.2 + 86)) b _ r97.2 _ [(12, .int v75), (10, .ref (b + r73.1)), (9, .int a42.2.2.1), (8, .int a42.2.1), (7, .ref (b + q38)), (6, .ref (b + r34)), (5, .ref (b + q23)), (3, .ref (b + 0)), (0, .ref bs), (2, .int x2)] [.int r97.1]
              refine e_istore (z := tw_cz z (a42.2.2.2.2.1 + 21) (a42.2.2.2.2.2 + 86)) (dw_zX X) dL_law_287 (by decide) (LL := fun v98 => [(13, .int v98), (12, .int v75), (10, .ref (b + r73.1)), (9, .int a42.2.2.1), (8, .int a42.2.1), (7, .ref (b + q38)), (6, .ref (b + r34)), (5, .ref (b + q23)), (3, .ref (b + 0)), (0, .ref bs), (2, .int x2)]) (fun _ => rfl) (fun v98 => ?_)
              refine e_aload (z := tw_cz z (a42.2.2.2.2.1 + 21) (a42.2.2.2.2.2 + 86)) (dw_zX X) dL_law_289 6 rfl ?_
              refine e_aload (z := tw_cz z (a42.2.2.2.2.1 + 21) (a42.2.2.2.2.2 + 86)) (dw_zX X) dL_law_291 6 rfl ?_
              refine e_getf (ci := 13) (T := TX13) (f := 7) (k := r34) (z := tw_cz z (a42.2.2.2.2.1 + 21) (a42.2.2.2.2.2 + 86)) (dw_zX X) dL_law_293 (Or.inl ⟨_, dw_w605⟩) dw_in13 rfl (by decide) (by decide) (fun h => dw_E13 h) rfl ?_
              refine e_null (z := tw_cz z (a42.2.2.2.2.1 + 21) (a42.2.2.2.2.2 + 86)) (dw_zX X) dL_law_296 ?_
              show dw_Rf (tw_cz z (a42.2.2.2.2.1 + 21) (a42.2.2.2.2.2 + 86)) b _ r97.2 _ [(13, .int v98), (12, .int v75), (10, .ref (b + r73.1)), (9, .int a42.2.2.1), (8, .int a42.2.1), (7, .ref (b + q38)), (6, .ref (b + r34)), (5, .ref (b + q23)), (3, .ref (b + 0)), (0, .ref bs), (2, .int x2)] (dw_v b none :: .int (dw_i r97.2 r34 7) :: .ref (b + r34) :: [])
              refine e_callV (k := r34) (ci := 13) (Cn := "TreasureWalkLaw$Island") (T := TX13) (N := 13) (c := (a42.2.2.2.2.1 + 21)) (s := (a42.2.2.2.2.2 + 86)) (As := [.int (dw_i r97.2 r34 7), dw_v b none]) (z := tw_cz z (a42.2.2.2.2.1 + 21) (a42.2.2.2.2.2 + 86)) (dw_zX X) (dw_zA hA) (dw_zb hb) (dw_zD hD) dw_z0 (dw_zM eMC eMS) dL_law_297 (fun Q h => dw_m_X13_far (dw_zD hD) h) dw_y_X13_far dw_v_X13_far _ dw_w719 (by decide) rfl (fun h => dw_E13 h) rfl ⟨dw_zf hfr rfl, dw_zl hlo rfl⟩ (Nat.le_of_ble_eq_true rfl) rfl (fun r99 => ?_)
              show dw_Rf (tw_cz z ((a42.2.2.2.2.1 + 21) + 1) ((a42.2.2.2.2.2 + 86) + 30)) b _ r99.2 _ [(13, .int v98), (12, .int v75), (10, .ref (b + r73.1)), (9, .int a42.2.2.1), (8, .int a42.2.1), (7, .ref (b + q38)), (6, .ref (b + r34)), (5, .ref (b + q23)), (3, .ref (b + 0)), (0, .ref bs), (2, .int x2)] [.ref (b + r99.1)]
              refine e_iload (z := tw_cz z ((a42.2.2.2.2.1 + 21) + 1) ((a42.2.2.2.2.2 + 86) + 30)) (dw_zX X) dL_law_300 0 rfl ?_
              refine e_iald (k := r99.1) (z := tw_cz z ((a42.2.2.2.2.1 + 21) + 1) ((a42.2.2.2.2.2 + 86) + 30)) (dw_zX X) dL_law_302 ?_
              refine e_istore (z := tw_cz z ((a42.2.2.2.2.1 + 21) + 1) ((a42.2.2.2.2.2 + 86) + 30)) (dw_zX X) dL_law_303 (by decide) (LL := fun v100 => [(14, .int v100), (13, .int v98), (12, .int v75), (10, .ref (b + r73.1)), (9, .int a42.2.2.1), (8, .int a42.2.1), (7, .ref (b + q38)), (6, .ref (b + r34)), (5, .ref (b + q23)), (3, .ref (b + 0)), (0, .ref bs), (2, .int x2)]) (fun _ => rfl) (fun v100 => ?_)
              refine e_iload (z := tw_cz z ((a42.2.2.2.2.1 + 21) + 1) ((a42.2.2.2.2.2 + 86) + 30)) (dw_zX X) dL_law_305 0 rfl ?_
              refine e_sipush (z := tw_cz z ((a42.2.2.2.2.1 + 21) + 1) ((a42.2.2.2.2.2 + 86) + 30)) (dw_zX X) dL_law_307 (v := (9999 : Int32)) (by decide) ?_
              refine e_jn (α := Int32) (zJ := fun a101 => tw_cz z ((a42.2.2.2.2.1 + 21) + 1) ((a42.2.2.2.2.2 + 86) + 30)) (YJ := fun a101 => r99.2) (pcJ := 318) (LJ := fun a101 => [(14, .int v100), (13, .int v98), (10, .ref (b + r73.1)), (9, .int a42.2.2.1), (8, .int a42.2.1), (7, .ref (b + q38)), (6, .ref (b + r34)), (5, .ref (b + q23)), (3, .ref (b + 0)), (0, .ref bs), (2, .int x2)]) (stJ := fun a101 => [.int a101]) (fun a101 => ?_) (fun j102 hj102 => ?_)
              ·
                refine e_istore (z := tw_cz z ((a42.2.2.2.2.1 + 21) + 1) ((a42.2.2.2.2.2 + 86) + 30)) (dw_zX X) dL_law_318 (by decide) (LL := fun v103 => [(11, .int v103), (14, .int v100), (13, .int v98), (10, .ref (b + r73.1)), (9, .int a42.2.2.1), (8, .int a42.2.1), (7, .ref (b + q38)), (6, .ref (b + r34)), (5, .ref (b + q23)), (3, .ref (b + 0)), (0, .ref bs), (2, .int x2)]) (fun _ => rfl) (fun v103 => ?_)
                refine e_iload (z := tw_cz z ((a42.2.2.2.2.1 + 21) + 1) ((a42.2.2.2.2.2 + 86) + 30)) (dw_zX X) dL_law_320 0 rfl ?_
                refine e_jn (α := dw_S) (zJ := fun a104 => tw_cz z ((a42.2.2.2.2.1 + 21) + 1) ((a42.2.2.2.2.2 + 86) + 30)) (YJ := fun a104 => a104) (pcJ := 344) (LJ := fun a104 => [(11, .int v103), (14, .int v100), (13, .int v98), (10, .ref (b + r73.1)), (9, .int a42.2.2.1), (8, .int a42.2.1), (7, .ref (b + q38)), (6, .ref (b + r34)), (5, .ref (b + q23)), (3, .ref (b + 0)), (0, .ref bs), (2, .int x2)]) (stJ := fun a104 => []) (fun a104 => ?_) (fun j105 hj105 => ?_)
                ·
                  refine e_aload_n (z := tw_cz z ((a42.2.2.2.2.1 + 21) + 1) ((a42.2.2.2.2.2 + 86) + 30)) (dw_zX X) dL_law_344 rfl 9 rfl ?_
                  refine e_iload (z := tw_cz z ((a42.2.2.2.2.1 + 21) + 1) ((a42.2.2.2.2.2 + 86) + 30)) (dw_zX X) dL_law_345 2 rfl ?_
                  refine e_aload (z := tw_cz z ((a42.2.2.2.2.1 + 21) + 1) ((a42.2.2.2.2.2 + 86) + 30)) (dw_zX X) dL_law_347 7 rfl ?_
                  refine e_getf (ci := 13) (T := TX13) (f := 0) (k := r34) (z := tw_cz z ((a42.2.2.2.2.1 + 21) + 1) ((a42.2.2.2.2.2 + 86) + 30)) (dw_zX X) dL_law_349 (Or.inl ⟨_, dw_w591⟩) dw_in13 rfl (by decide) (by decide) (fun h => dw_E13 h) rfl ?_
                  refine e_irem (z := tw_cz z ((a42.2.2.2.2.1 + 21) + 1) ((a42.2.2.2.2.2 + 86) + 30)) (dw_zX X) dL_law_352 ?_
                  refine e_iload (z := tw_cz z ((a42.2.2.2.2.1 + 21) + 1) ((a42.2.2.2.2.2 + 86) + 30)) (dw_zX X) dL_law_353 2 rfl ?_
                  refine e_aload (z := tw_cz z ((a42.2.2.2.2.1 + 21) + 1) ((a42.2.2.2.2.2 + 86) + 30)) (dw_zX X) dL_law_355 7 rfl ?_
                  refine e_getf (ci := 13) (T := TX13) (f := 0) (k := r34) (z := tw_cz z ((a42.2.2.2.2.1 + 21) + 1) ((a42.2.2.2.2.2 + 86) + 30)) (dw_zX X) dL_law_357 (Or.inl ⟨_, dw_w591⟩) dw_in13 rfl (by decide) (by decide) (fun h => dw_E13 h) rfl ?_
                  refine e_idiv (z := tw_cz z ((a42.2.2.2.2.1 + 21) + 1) ((a42.2.2.2.2.2 + 86) + 30)) (dw_zX X) dL_law_360 ?_
                  refine e_callW (c := ((a42.2.2.2.2.1 + 21) + 1)) (s := ((a42.2.2.2.2.2 + 86) + 30)) (As := [.ref (b + 0), .int (v98 - v98 / (dw_i a104 r34 0) * (dw_i a104 r34 0)), .int (v98 / (dw_i a104 r34 0))]) (z := tw_cz z ((a42.2.2.2.2.1 + 21) + 1) ((a42.2.2.2.2.2 + 86) + 30)) (dw_zX X) (dw_zA hA) (dw_zb hb) (dw_zD hD) dw_z0 (dw_zM eMC eMS) dL_law_361 (fun Q h => dw_m_L_moveTo hD hst h) dw_y_L_moveTo _ dw_w1200 rfl ⟨dw_zf hfr rfl, dw_zl hlo rfl⟩ (Nat.le_of_ble_eq_true rfl) rfl (fun r106 => ?_)
                  show dw_Rf (tw_cz z (((a42.2.2.2.2.1 + 21) + 1) + 1) (((a42.2.2.2.2.2 + 86) + 30) + 6)) b _ r106.2 _ [(11, .int v103), (14, .int v100), (13, .int v98), (10, .ref (b + r73.1)), (9, .int a42.2.2.1), (8, .int a42.2.1), (7, .ref (b + q38)), (6, .ref (b + r34)), (5, .ref (b + q23)), (3, .ref (b + 0)), (0, .ref bs), (2, .int x2)] [.int r106.1]
                  refine e_iload (z := tw_cz z (((a42.2.2.2.2.1 + 21) + 1) + 1) (((a42.2.2.2.2.2 + 86) + 30) + 6)) (dw_zX X) dL_law_364 0 rfl ?_
                  refine e_jn (α := Int32) (zJ := fun a107 => tw_cz z (((a42.2.2.2.2.1 + 21) + 1) + 1) (((a42.2.2.2.2.2 + 86) + 30) + 6)) (YJ := fun a107 => r106.2) (pcJ := 375) (LJ := fun a107 => [(11, .int v103), (10, .ref (b + r73.1)), (9, .int a42.2.2.1), (8, .int a42.2.1), (7, .ref (b + q38)), (6, .ref (b + r34)), (5, .ref (b + q23)), (3, .ref (b + 0)), (0, .ref bs), (2, .int x2)]) (stJ := fun a107 => [.int a107, .int r106.1]) (fun a107 => ?_) (fun j108 hj108 => ?_)
                  ·
                    refine e_jn (α := Int32) (zJ := fun a109 => tw_cz z (((a42.2.2.2.2.1 + 21) + 1) + 1) (((a42.2.2.2.2.2 + 86) + 30) + 6)) (YJ := fun a109 => r106.2) (pcJ := 383) (LJ := fun a109 => [(11, .int v103), (10, .ref (b + r73.1)), (9, .int a42.2.2.1), (8, .int a42.2.1), (7, .ref (b + q38)), (6, .ref (b + r34)), (5, .ref (b + q23)), (3, .ref (b + 0)), (0, .ref bs), (2, .int x2)]) (stJ := fun a109 => [.int a109]) (fun a109 => ?_) (fun j110 hj110 => ?_)
                    ·
                      refine e_istore_n (z := tw_cz z (((a42.2.2.2.2.1 + 21) + 1) + 1) (((a42.2.2.2.2.2 + 86) + 30) + 6)) (dw_zX X) dL_law_383 rfl (by decide) (LL := fun v111 => [(1, .int v111), (11, .int v103), (10, .ref (b + r73.1)), (9, .int a42.2.2.1), (8, .int a42.2.1), (7, .ref (b + q38)), (6, .ref (b + r34)), (5, .ref (b + q23)), (3, .ref (b + 0)), (0, .ref bs), (2, .int x2)]) (fun _ => rfl) (fun v111 => ?_)
                      refine e_goto (z := tw_cz z (((a42.2.2.2.2.1 + 21) + 1) + 1) (((a42.2.2.2.2.2 + 86) + 30) + 6)) (dw_zX X) dL_law_384 (tgt := 689) (by decide) ?_
                      exact dw_Rf.sub [1, 2, 3, 4, 5, 0, 6, 7, 8, 9, 10] rfl (hj78 (v111, v103, r106.2, (((a42.2.2.2.2.1 + 21) + 1) + 1), (((a42.2.2.2.2.2 + 86) + 30) + 6)))
                    refine e_icmp_ne (z := tw_cz z (((a42.2.2.2.2.1 + 21) + 1) + 1) (((a42.2.2.2.2.2 + 86) + 30) + 6)) (dw_zX X) dL_law_375 (tgt := 382) (by decide) ?_ ?_
                    ·
                      refine e_iconst (z := tw_cz z (((a42.2.2.2.2.1 + 21) + 1) + 1) (((a42.2.2.2.2.2 + 86) + 30) + 6)) (dw_zX X) dL_law_382 (v := (0 : Int32)) (by decide) ?_
                      exact hj110 (0 : Int32)
                    ·
                      refine e_iconst (z := tw_cz z (((a42.2.2.2.2.1 + 21) + 1) + 1) (((a42.2.2.2.2.2 + 86) + 30) + 6)) (dw_zX X) dL_law_378 (v := (1 : Int32)) (by decide) ?_
                      refine e_goto (z := tw_cz z (((a42.2.2.2.2.1 + 21) + 1) + 1) (((a42.2.2.2.2.2 + 86) + 30) + 6)) (dw_zX X) dL_law_379 (tgt := 383) (by decide) ?_
                      exact hj110 (1 : Int32)
                  refine e_if_eq (z := tw_cz z (((a42.2.2.2.2.1 + 21) + 1) + 1) (((a42.2.2.2.2.2 + 86) + 30) + 6)) (dw_zX X) dL_law_366 (tgt := 374) (by decide) ?_ ?_
                  ·
                    refine e_iconst (z := tw_cz z (((a42.2.2.2.2.1 + 21) + 1) + 1) (((a42.2.2.2.2.2 + 86) + 30) + 6)) (dw_zX X) dL_law_374 (v := (-1 : Int32)) (by decide) ?_
                    exact dw_Rf.sub [0, 3, 4, 5, 6, 7, 8, 9, 10, 11] rfl (hj108 (-1 : Int32))
                  ·
                    refine e_iload (z := tw_cz z (((a42.2.2.2.2.1 + 21) + 1) + 1) (((a42.2.2.2.2.2 + 86) + 30) + 6)) (dw_zX X) dL_law_369 1 rfl ?_
                    refine e_goto (z := tw_cz z (((a42.2.2.2.2.1 + 21) + 1) + 1) (((a42.2.2.2.2.2 + 86) + 30) + 6)) (dw_zX X) dL_law_371 (tgt := 375) (by decide) ?_
                    exact dw_Rf.sub [0, 3, 4, 5, 6, 7, 8, 9, 10, 11] rfl (hj108 v100)
                refine e_if_eq (z := tw_cz z ((a42.2.2.2.2.1 + 21) + 1) ((a42.2.2.2.2.2 + 86) + 30)) (dw_zX X) dL_law_322 (tgt := 344) (by decide) ?_ ?_
                ·
                  exact hj105 r99.2
                ·
                  refine e_aload (z := tw_cz z ((a42.2.2.2.2.1 + 21) + 1) ((a42.2.2.2.2.2 + 86) + 30)) (dw_zX X) dL_law_325 7 rfl ?_
                  refine e_iload (z := tw_cz z ((a42.2.2.2.2.1 + 21) + 1) ((a42.2.2.2.2.2 + 86) + 30)) (dw_zX X) dL_law_327 2 rfl ?_
                  show dw_Rf (tw_cz z ((a42.2.2.2.2.1 + 21) + 1) ((a42.2.2.2.2.2 + 86) + 30)) b _ r99.2 _ [(11, .int v103), (14, .int v100), (13, .int v98), (10, .ref (b + r73.1)), (9, .int a42.2.2.1), (8, .int a42.2.1), (7, .ref (b + q38)), (6, .ref (b + r34)), (5, .ref (b + q23)), (3, .ref (b + 0)), (0, .ref bs), (2, .int x2)] (.int v98 :: .ref (b + r34) :: [])
                  refine e_put (ci := 13) (T := TX13) (f := 7) (ty := .int) (k := r34) (z := tw_cz z ((a42.2.2.2.2.1 + 21) + 1) ((a42.2.2.2.2.2 + 86) + 30)) (dw_zX X) (dw_zb hb) dL_law_329 (Or.inl ⟨_, dw_w605⟩) dw_in13 tyX13 tyX13_ok nmX13 rfl (by decide) rfl (by decide +kernel) rfl rfl (by decide) (fun h => dw_F13 h) (Nat.le_of_ble_eq_true rfl) (fun h => dw_p13_7 h) rfl rfl rfl (fun a ha => dw_E_pi ha) (fun Y112 => ?_)
                  refine e_aload (z := tw_cz z ((a42.2.2.2.2.1 + 21) + 1) ((a42.2.2.2.2.2 + 86) + 30)) (dw_zX X) dL_law_332 7 rfl ?_
                  refine e_dup (z := tw_cz z ((a42.2.2.2.2.1 + 21) + 1) ((a42.2.2.2.2.2 + 86) + 30)) (dw_zX X) dL_law_334 rfl ?_
                  refine e_getf (ci := 13) (T := TX13) (f := 8) (k := r34) (z := tw_cz z ((a42.2.2.2.2.1 + 21) + 1) ((a42.2.2.2.2.2 + 86) + 30)) (dw_zX X) dL_law_335 (Or.inl ⟨_, dw_w607⟩) dw_in13 rfl (by decide) (by decide) (fun h => dw_E13 h) rfl ?_
                  refine e_iload (z := tw_cz z ((a42.2.2.2.2.1 + 21) + 1) ((a42.2.2.2.2.2 + 86) + 30)) (dw_zX X) dL_law_338 1 rfl ?_
                  refine e_iadd (z := tw_cz z ((a42.2.2.2.2.1 + 21) + 1) ((a42.2.2.2.2.2 + 86) + 30)) (dw_zX X) dL_law_340 ?_
                  show dw_Rf (tw_cz z ((a42.2.2.2.2.1 + 21) + 1) ((a42.2.2.2.2.2 + 86) + 30)) b _ Y112 _ [(11, .int v103), (14, .int v100), (13, .int v98), (10, .ref (b + r73.1)), (9, .int a42.2.2.1), (8, .int a42.2.1), (7, .ref (b + q38)), (6, .ref (b + r34)), (5, .ref (b + q23)), (3, .ref (b + 0)), (0, .ref bs), (2, .int x2)] (.int ((dw_i Y112 r34 8) + v100) :: .ref (b + r34) :: [])
                  refine e_put (ci := 13) (T := TX13) (f := 8) (ty := .int) (k := r34) (z := tw_cz z ((a42.2.2.2.2.1 + 21) + 1) ((a42.2.2.2.2.2 + 86) + 30)) (dw_zX X) (dw_zb hb) dL_law_341 (Or.inl ⟨_, dw_w607⟩) dw_in13 tyX13 tyX13_ok nmX13 rfl (by decide) rfl (by decide +kernel) rfl rfl (by decide) (fun h => dw_F13 h) (Nat.le_of_ble_eq_true rfl) (fun h => dw_p13_8 h) rfl rfl rfl (fun a ha => dw_E_pi ha) (fun Y113 => ?_)
                  exact hj105 Y113
              refine e_icmp_ge (z := tw_cz z ((a42.2.2.2.2.1 + 21) + 1) ((a42.2.2.2.2.2 + 86) + 30)) (dw_zX X) dL_law_310 (tgt := 317) (by decide) ?_ ?_
              ·
                refine e_iconst (z := tw_cz z ((a42.2.2.2.2.1 + 21) + 1) ((a42.2.2.2.2.2 + 86) + 30)) (dw_zX X) dL_law_317 (v := (0 : Int32)) (by decide) ?_
                exact dw_Rf.sub [0, 1, 3, 4, 5, 6, 7, 8, 9, 10, 11] rfl (hj102 (0 : Int32))
              ·
                refine e_iconst (z := tw_cz z ((a42.2.2.2.2.1 + 21) + 1) ((a42.2.2.2.2.2 + 86) + 30)) (dw_zX X) dL_law_313 (v := (1 : Int32)) (by decide) ?_
                refine e_goto (z := tw_cz z ((a42.2.2.2.2.1 + 21) + 1) ((a42.2.2.2.2.2 + 86) + 30)) (dw_zX X) dL_law_314 (tgt := 318) (by decide) ?_
                exact dw_Rf.sub [0, 1, 3, 4, 5, 6, 7, 8, 9, 10, 11] rfl (hj102 (1 : Int32))
            refine e_ite (fun h114 => ?_) (fun h114 => ?_)
            ·
              refine e_tsw (z := tw_cz z (a42.2.2.2.2.1 + 21) (a42.2.2.2.2.2 + 86)) (dw_zX X) dL_law_246 h114 (by decide) (by decide) rfl (tgt := 280) (by decide) ?_
              exact dw_Rf.sub [0, 2, 3, 4, 5, 7, 8, 9, 10, 11] rfl (hj96 ())
            refine e_ite (fun h115 => ?_) (fun h115 => ?_)
            ·
              refine e_tsw (z := tw_cz z (a42.2.2.2.2.1 + 21) (a42.2.2.2.2.2 + 86)) (dw_zX X) dL_law_246 h115 (by decide) (by decide) rfl (tgt := 280) (by decide) ?_
              exact dw_Rf.sub [0, 2, 3, 4, 5, 7, 8, 9, 10, 11] rfl (hj96 ())
            refine e_ite (fun h116 => ?_) (fun h116 => ?_)
            ·
              refine e_tsw (z := tw_cz z (a42.2.2.2.2.1 + 21) (a42.2.2.2.2.2 + 86)) (dw_zX X) dL_law_246 h116 (by decide) (by decide) rfl (tgt := 387) (by decide) ?_
              refine e_aload_n (z := tw_cz z (a42.2.2.2.2.1 + 21) (a42.2.2.2.2.2 + 86)) (dw_zX X) dL_law_387 rfl 9 rfl ?_
              refine e_cls (e := tw_P_X11_dig (dw_s r76.2)) (rv := fun r => some (.int r.1)) (σ' := fun r => r.2) (As := []) (z := tw_cz z (a42.2.2.2.2.1 + 21) (a42.2.2.2.2.2 + 86)) (dw_zX X) (dw_zb hb) ⟨rfl, rfl⟩ ⟨eMC, eMS⟩ dL_law_388 (fun r h => tw_m_X11_dig h) tw_y_X11_dig tw_v_X11_dig _ dw_w457 rfl ⟨rfl, rfl, tw_le hfr rfl, tw_le hlo rfl⟩ (Nat.le_of_ble_eq_true rfl) rfl (fun r117 => ?_)
              show dw_Rf (tw_cz z (a42.2.2.2.2.1 + 21) (a42.2.2.2.2.2 + 86)) b _ (dw_cs r76.2 r117.2) _ [(12, .int v75), (11, .int v74), (10, .ref (b + r73.1)), (9, .int a42.2.2.1), (8, .int a42.2.1), (7, .ref (b + q38)), (1, .int a42.1), (6, .ref (b + r34)), (5, .ref (b + q23)), (3, .ref (b + 0)), (0, .ref bs), (2, .int x2)] [.int r117.1]
              refine e_aload (z := tw_cz z (a42.2.2.2.2.1 + 21) (a42.2.2.2.2.2 + 86)) (dw_zX X) dL_law_391 7 rfl ?_
              refine e_callV (k := r34) (ci := 13) (Cn := "TreasureWalkLaw$Island") (T := TX13) (N := 13) (c := (a42.2.2.2.2.1 + 21)) (s := (a42.2.2.2.2.2 + 86)) (As := []) (z := tw_cz z (a42.2.2.2.2.1 + 21) (a42.2.2.2.2.2 + 86)) (dw_zX X) (dw_zA hA) (dw_zb hb) (dw_zD hD) dw_z0 (dw_zM eMC eMS) dL_law_393 (fun Q h => dw_m_X13_digs (dw_zD hD) h) dw_y_X13_digs dw_v_X13_digs _ dw_w723 (by decide) rfl (fun h => dw_E13 h) rfl ⟨dw_zf hfr rfl, dw_zl hlo rfl⟩ (Nat.le_of_ble_eq_true rfl) rfl (fun r118 => ?_)
              show dw_Rf (tw_cz z (a42.2.2.2.2.1 + 21) (a42.2.2.2.2.2 + 86)) b _ r118.2 _ [(12, .int v75), (11, .int v74), (10, .ref (b + r73.1)), (9, .int a42.2.2.1), (8, .int a42.2.1), (7, .ref (b + q38)), (1, .int a42.1), (6, .ref (b + r34)), (5, .ref (b + q23)), (3, .ref (b + 0)), (0, .ref bs), (2, .int x2)] [.int r118.1, .int r117.1]
              refine e_jn (α := Int32) (zJ := fun a119 => tw_cz z (a42.2.2.2.2.1 + 21) (a42.2.2.2.2.2 + 86)) (YJ := fun a119 => r118.2) (pcJ := 404) (LJ := fun a119 => [(11, .int v74), (10, .ref (b + r73.1)), (9, .int a42.2.2.1), (8, .int a42.2.1), (7, .ref (b + q38)), (6, .ref (b + r34)), (5, .ref (b + q23)), (3, .ref (b + 0)), (0, .ref bs), (2, .int x2)]) (stJ := fun a119 => [.int a119]) (fun a119 => ?_) (fun j120 hj120 => ?_)
              ·
                refine e_istore_n (z := tw_cz z (a42.2.2.2.2.1 + 21) (a42.2.2.2.2.2 + 86)) (dw_zX X) dL_law_404 rfl (by decide) (LL := fun v121 => [(1, .int v121), (11, .int v74), (10, .ref (b + r73.1)), (9, .int a42.2.2.1), (8, .int a42.2.1), (7, .ref (b + q38)), (6, .ref (b + r34)), (5, .ref (b + q23)), (3, .ref (b + 0)), (0, .ref bs), (2, .int x2)]) (fun _ => rfl) (fun v121 => ?_)
                refine e_goto (z := tw_cz z (a42.2.2.2.2.1 + 21) (a42.2.2.2.2.2 + 86)) (dw_zX X) dL_law_405 (tgt := 689) (by decide) ?_
                exact dw_Rf.sub [1, 2, 3, 4, 5, 0, 6, 7, 8, 9, 10] rfl (hj78 (v121, v74, r118.2, (a42.2.2.2.2.1 + 21), (a42.2.2.2.2.2 + 86)))
              refine e_icmp_ne (z := tw_cz z (a42.2.2.2.2.1 + 21) (a42.2.2.2.2.2 + 86)) (dw_zX X) dL_law_396 (tgt := 403) (by decide) ?_ ?_
              ·
                refine e_iconst (z := tw_cz z (a42.2.2.2.2.1 + 21) (a42.2.2.2.2.2 + 86)) (dw_zX X) dL_law_403 (v := (0 : Int32)) (by decide) ?_
                exact dw_Rf.sub [1, 2, 3, 4, 5, 7, 8, 9, 10, 11] rfl (hj120 (0 : Int32))
              ·
                refine e_iconst (z := tw_cz z (a42.2.2.2.2.1 + 21) (a42.2.2.2.2.2 + 86)) (dw_zX X) dL_law_399 (v := (1 : Int32)) (by decide) ?_
                refine e_goto (z := tw_cz z (a42.2.2.2.2.1 + 21) (a42.2.2.2.2.2 + 86)) (dw_zX X) dL_law_400 (tgt := 404) (by decide) ?_
                exact dw_Rf.sub [1, 2, 3, 4, 5, 7, 8, 9, 10, 11] rfl (hj120 (1 : Int32))
            refine e_ite (fun h122 => ?_) (fun h122 => ?_)
            ·
              refine e_tsw (z := tw_cz z (a42.2.2.2.2.1 + 21) (a42.2.2.2.2.2 + 86)) (dw_zX X) dL_law_246 h122 (by decide) (by decide) rfl (tgt := 408) (by decide) ?_
              refine e_aload (z := tw_cz z (a42.2.2.2.2.1 + 21) (a42.2.2.2.2.2 + 86)) (dw_zX X) dL_law_408 8 rfl ?_
              refine e_aload (z := tw_cz z (a42.2.2.2.2.1 + 21) (a42.2.2.2.2.2 + 86)) (dw_zX X) dL_law_410 7 rfl ?_
              refine e_getf (ci := 13) (T := TX13) (f := 6) (k := r34) (z := tw_cz z (a42.2.2.2.2.1 + 21) (a42.2.2.2.2.2 + 86)) (dw_zX X) dL_law_412 (Or.inl ⟨_, dw_w603⟩) dw_in13 rfl (by decide) (by decide) (fun h => dw_E13 h) rfl ?_
              refine e_nn (r := (dw_r r76.2 r34 6)) (LL := fun _ => [(12, .int v75), (11, .int v74), (10, .ref (b + r73.1)), (9, .int a42.2.2.1), (8, .int a42.2.1), (7, .ref (b + q38)), (1, .int a42.1), (6, .ref (b + r34)), (5, .ref (b + q23)), (3, .ref (b + 0)), (0, .ref bs), (2, .int x2)]) (SS := fun q => dw_v b q :: [.ref (b + q23)]) (fun r123 => ?_)
              show dw_Rf (tw_cz z (a42.2.2.2.2.1 + 21) (a42.2.2.2.2.2 + 86)) b _ r76.2 _ [(12, .int v75), (11, .int v74), (10, .ref (b + r73.1)), (9, .int a42.2.2.1), (8, .int a42.2.1), (7, .ref (b + q38)), (1, .int a42.1), (6, .ref (b + r34)), (5, .ref (b + q23)), (3, .ref (b + 0)), (0, .ref bs), (2, .int x2)] [.ref (b + r123), .ref (b + q23)]
              refine e_alen (k := r123) (kd := 24) (a := 7) (ty := .object "TreasureWalkLaw$Clue") (x := (0, .inr (.inr (.inr (.inr (fun j => Option.map (fun a => b + a) (dw_r r76.2 r123 j))))))) (z := tw_cz z (a42.2.2.2.2.1 + 21) (a42.2.2.2.2.2 + 86)) (dw_zX X) dL_law_415 (by decide) (fun h => dw_E24 h) rfl ?_
              refine e_iconst (z := tw_cz z (a42.2.2.2.2.1 + 21) (a42.2.2.2.2.2 + 86)) (dw_zX X) dL_law_416 (v := (1 : Int32)) (by decide) ?_
              refine e_iadd (z := tw_cz z (a42.2.2.2.2.1 + 21) (a42.2.2.2.2.2 + 86)) (dw_zX X) dL_law_417 ?_
              refine e_callV (k := q23) (ci := 15) (Cn := "TreasureWalkLaw$Random") (T := TX15) (N := 1) (c := (a42.2.2.2.2.1 + 21)) (s := (a42.2.2.2.2.2 + 86)) (As := [.int ((Int32.ofNat (dw_l r76.2 r123)) + (1 : Int32))]) (z := tw_cz z (a42.2.2.2.2.1 + 21) (a42.2.2.2.2.2 + 86)) (dw_zX X) (dw_zA hA) (dw_zb hb) (dw_zD hD) dw_z0 (dw_zM eMC eMS) dL_law_418 (fun Q h => dw_m_X15_below (dw_zD hD) h) dw_y_X15_below dw_v_X15_below _ dw_w743 (by decide) rfl (fun h => dw_E15 h) rfl ⟨dw_zf hfr rfl, dw_zl hlo rfl⟩ (Nat.le_of_ble_eq_true rfl) rfl (fun r124 => ?_)
              show dw_Rf (tw_cz z (a42.2.2.2.2.1 + 21) (a42.2.2.2.2.2 + 86)) b _ r124.2 _ [(12, .int v75), (11, .int v74), (10, .ref (b + r73.1)), (9, .int a42.2.2.1), (8, .int a42.2.1), (7, .ref (b + q38)), (1, .int a42.1), (6, .ref (b + r34)), (5, .ref (b + q23)), (3, .ref (b + 0)), (0, .ref bs), (2, .int x2)] [.int r124.1]
              refine e_istore (z := tw_cz z (a42.2.2.2.2.1 + 21) (a42.2.2.2.2.2 + 86)) (dw_zX X) dL_law_421 (by decide) (LL := fun v125 => [(15, .int v125), (12, .int v75), (11, .int v74), (10, .ref (b + r73.1)), (9, .int a42.2.2.1), (8, .int a42.2.1), (7, .ref (b + q38)), (1, .int a42.1), (6, .ref (b + r34)), (5, .ref (b + q23)), (3, .ref (b + 0)), (0, .ref bs), (2, .int x2)]) (fun _ => rfl) (fun v125 => ?_)
              refine e_aload (z := tw_cz z (a42.2.2.2.2.1 + 21) (a42.2.2.2.2.2 + 86)) (dw_zX X) dL_law_423 9 rfl ?_
              refine e_iconst (z := tw_cz z (a42.2.2.2.2.1 + 21) (a42.2.2.2.2.2 + 86)) (dw_zX X) dL_law_425 (v := (2 : Int32)) (by decide) ?_
              refine e_callV (k := q23) (ci := 15) (Cn := "TreasureWalkLaw$Random") (T := TX15) (N := 1) (c := (a42.2.2.2.2.1 + 21)) (s := (a42.2.2.2.2.2 + 86)) (As := [.int (2 : Int32)]) (z := tw_cz z (a42.2.2.2.2.1 + 21) (a42.2.2.2.2.2 + 86)) (dw_zX X) (dw_zA hA) (dw_zb hb) (dw_zD hD) dw_z0 (dw_zM eMC eMS) dL_law_426 (fun Q h => dw_m_X15_below (dw_zD hD) h) dw_y_X15_below dw_v_X15_below _ dw_w743 (by decide) rfl (fun h => dw_E15 h) rfl ⟨dw_zf hfr rfl, dw_zl hlo rfl⟩ (Nat.le_of_ble_eq_true rfl) rfl (fun r126 => ?_)
              show dw_Rf (tw_cz z (a42.2.2.2.2.1 + 21) (a42.2.2.2.2.2 + 86)) b _ r126.2 _ [(15, .int v125), (12, .int v75), (11, .int v74), (10, .ref (b + r73.1)), (9, .int a42.2.2.1), (8, .int a42.2.1), (7, .ref (b + q38)), (1, .int a42.1), (6, .ref (b + r34)), (5, .ref (b + q23)), (3, .ref (b + 0)), (0, .ref bs), (2, .int x2)] [.int r126.1]
              refine e_jn (α := Int32) (zJ := fun a127 => tw_cz z (a42.2.2.2.2.1 + 21) (a42.2.2.2.2.2 + 86)) (YJ := fun a127 => r126.2) (pcJ := 437) (LJ := fun a127 => [(15, .int v125), (10, .ref (b + r73.1)), (9, .int a42.2.2.1), (8, .int a42.2.1), (7, .ref (b + q38)), (6, .ref (b + r34)), (5, .ref (b + q23)), (3, .ref (b + 0)), (0, .ref bs), (2, .int x2)]) (stJ := fun a127 => [.int a127]) (fun a127 => ?_) (fun j128 hj128 => ?_)
              ·
                refine e_istore (z := tw_cz z (a42.2.2.2.2.1 + 21) (a42.2.2.2.2.2 + 86)) (dw_zX X) dL_law_437 (by decide) (LL := fun v129 => [(16, .int v129), (15, .int v125), (10, .ref (b + r73.1)), (9, .int a42.2.2.1), (8, .int a42.2.1), (7, .ref (b + q38)), (6, .ref (b + r34)), (5, .ref (b + q23)), (3, .ref (b + 0)), (0, .ref bs), (2, .int x2)]) (fun _ => rfl) (fun v129 => ?_)
                refine e_iload (z := tw_cz z (a42.2.2.2.2.1 + 21) (a42.2.2.2.2.2 + 86)) (dw_zX X) dL_law_439 1 rfl ?_
                refine e_aload (z := tw_cz z (a42.2.2.2.2.1 + 21) (a42.2.2.2.2.2 + 86)) (dw_zX X) dL_law_441 6 rfl ?_
                refine e_getf (ci := 13) (T := TX13) (f := 6) (k := r34) (z := tw_cz z (a42.2.2.2.2.1 + 21) (a42.2.2.2.2.2 + 86)) (dw_zX X) dL_law_443 (Or.inl ⟨_, dw_w603⟩) dw_in13 rfl (by decide) (by decide) (fun h => dw_E13 h) rfl ?_
                refine e_nn (r := (dw_r r126.2 r34 6)) (LL := fun _ => [(16, .int v129), (15, .int v125), (10, .ref (b + r73.1)), (9, .int a42.2.2.1), (8, .int a42.2.1), (7, .ref (b + q38)), (6, .ref (b + r34)), (5, .ref (b + q23)), (3, .ref (b + 0)), (0, .ref bs), (2, .int x2)]) (SS := fun q => dw_v b q :: [.int v125]) (fun r130 => ?_)
                show dw_Rf (tw_cz z (a42.2.2.2.2.1 + 21) (a42.2.2.2.2.2 + 86)) b _ r126.2 _ [(16, .int v129), (15, .int v125), (10, .ref (b + r73.1)), (9, .int a42.2.2.1), (8, .int a42.2.1), (7, .ref (b + q38)), (6, .ref (b + r34)), (5, .ref (b + q23)), (3, .ref (b + 0)), (0, .ref bs), (2, .int x2)] [.ref (b + r130), .int v125]
                refine e_alen (k := r130) (kd := 24) (a := 7) (ty := .object "TreasureWalkLaw$Clue") (x := (0, .inr (.inr (.inr (.inr (fun j => Option.map (fun a => b + a) (dw_r r126.2 r130 j))))))) (z := tw_cz z (a42.2.2.2.2.1 + 21) (a42.2.2.2.2.2 + 86)) (dw_zX X) dL_law_446 (by decide) (fun h => dw_E24 h) rfl ?_
                refine e_jn (α := Int32) (zJ := fun a131 => tw_cz z (a42.2.2.2.2.1 + 21) (a42.2.2.2.2.2 + 86)) (YJ := fun a131 => r126.2) (pcJ := 455) (LJ := fun a131 => [(16, .int v129), (15, .int v125), (10, .ref (b + r73.1)), (9, .int a42.2.2.1), (8, .int a42.2.1), (7, .ref (b + q38)), (6, .ref (b + r34)), (5, .ref (b + q23)), (3, .ref (b + 0)), (0, .ref bs), (2, .int x2)]) (stJ := fun a131 => [.int a131]) (fun a131 => ?_) (fun j132 hj132 => ?_)
                ·
                  refine e_istore (z := tw_cz z (a42.2.2.2.2.1 + 21) (a42.2.2.2.2.2 + 86)) (dw_zX X) dL_law_455 (by decide) (LL := fun v133 => [(11, .int v133), (16, .int v129), (15, .int v125), (10, .ref (b + r73.1)), (9, .int a42.2.2.1), (8, .int a42.2.1), (7, .ref (b + q38)), (6, .ref (b + r34)), (5, .ref (b + q23)), (3, .ref (b + 0)), (0, .ref bs), (2, .int x2)]) (fun _ => rfl) (fun v133 => ?_)
                  refine e_iload (z := tw_cz z (a42.2.2.2.2.1 + 21) (a42.2.2.2.2.2 + 86)) (dw_zX X) dL_law_457 0 rfl ?_
                  refine e_jn (α := dw_S) (zJ := fun a134 => tw_cz z (a42.2.2.2.2.1 + 21) (a42.2.2.2.2.2 + 86)) (YJ := fun a134 => a134) (pcJ := 475) (LJ := fun a134 => [(11, .int v133), (16, .int v129), (15, .int v125), (10, .ref (b + r73.1)), (9, .int a42.2.2.1), (8, .int a42.2.1), (7, .ref (b + q38)), (6, .ref (b + r34)), (5, .ref (b + q23)), (3, .ref (b + 0)), (0, .ref bs), (2, .int x2)]) (stJ := fun a134 => []) (fun a134 => ?_) (fun j135 hj135 => ?_)
                  ·
                    refine e_aload_n (z := tw_cz z (a42.2.2.2.2.1 + 21) (a42.2.2.2.2.2 + 86)) (dw_zX X) dL_law_475 rfl 9 rfl ?_
                    refine e_iload (z := tw_cz z (a42.2.2.2.2.1 + 21) (a42.2.2.2.2.2 + 86)) (dw_zX X) dL_law_476 2 rfl ?_
                    refine e_iload (z := tw_cz z (a42.2.2.2.2.1 + 21) (a42.2.2.2.2.2 + 86)) (dw_zX X) dL_law_478 1 rfl ?_
                    refine e_callW (c := (a42.2.2.2.2.1 + 21)) (s := (a42.2.2.2.2.2 + 86)) (As := [.ref (b + 0), .int v125, .int v129]) (z := tw_cz z (a42.2.2.2.2.1 + 21) (a42.2.2.2.2.2 + 86)) (dw_zX X) (dw_zA hA) (dw_zb hb) (dw_zD hD) dw_z0 (dw_zM eMC eMS) dL_law_480 (fun Q h => dw_m_L_use hD hst h) dw_y_L_use _ dw_w1207 rfl ⟨dw_zf hfr rfl, dw_zl hlo rfl⟩ (Nat.le_of_ble_eq_true rfl) rfl (fun r136 => ?_)
                    show dw_Rf (tw_cz z ((a42.2.2.2.2.1 + 21) + 1) ((a42.2.2.2.2.2 + 86) + 6)) b _ r136.2 _ [(11, .int v133), (16, .int v129), (15, .int v125), (10, .ref (b + r73.1)), (9, .int a42.2.2.1), (8, .int a42.2.1), (7, .ref (b + q38)), (6, .ref (b + r34)), (5, .ref (b + q23)), (3, .ref (b + 0)), (0, .ref bs), (2, .int x2)] [.int r136.1]
                    refine e_iload (z := tw_cz z ((a42.2.2.2.2.1 + 21) + 1) ((a42.2.2.2.2.2 + 86) + 6)) (dw_zX X) dL_law_483 0 rfl ?_
                    refine e_jn (α := Int32 × dw_S × Nat × Nat) (zJ := fun a137 => tw_cz z a137.2.2.1 a137.2.2.2) (YJ := fun a137 => a137.2.1) (pcJ := 501) (LJ := fun a137 => [(11, .int v133), (10, .ref (b + r73.1)), (9, .int a42.2.2.1), (8, .int a42.2.1), (7, .ref (b + q38)), (6, .ref (b + r34)), (5, .ref (b + q23)), (3, .ref (b + 0)), (0, .ref bs), (2, .int x2)]) (stJ := fun a137 => [.int a137.1, .int r136.1]) (fun a137 => ?_) (fun j138 hj138 => ?_)
                    ·
                      refine e_jn (α := Int32) (zJ := fun a139 => tw_cz z a137.2.2.1 a137.2.2.2) (YJ := fun a139 => a137.2.1) (pcJ := 509) (LJ := fun a139 => [(11, .int v133), (10, .ref (b + r73.1)), (9, .int a42.2.2.1), (8, .int a42.2.1), (7, .ref (b + q38)), (6, .ref (b + r34)), (5, .ref (b + q23)), (3, .ref (b + 0)), (0, .ref bs), (2, .int x2)]) (stJ := fun a139 => [.int a139]) (fun a139 => ?_) (fun j140 hj140 => ?_)
                      ·
                        refine e_istore_n (z := tw_cz z a137.2.2.1 a137.2.2.2) (dw_zX X) dL_law_509 rfl (by decide) (LL := fun v141 => [(1, .int v141), (11, .int v133), (10, .ref (b + r73.1)), (9, .int a42.2.2.1), (8, .int a42.2.1), (7, .ref (b + q38)), (6, .ref (b + r34)), (5, .ref (b + q23)), (3, .ref (b + 0)), (0, .ref bs), (2, .int x2)]) (fun _ => rfl) (fun v141 => ?_)
                        refine e_goto (z := tw_cz z a137.2.2.1 a137.2.2.2) (dw_zX X) dL_law_510 (tgt := 689) (by decide) ?_
                        exact dw_Rf.sub [1, 2, 3, 4, 5, 0, 6, 7, 8, 9, 10] rfl (hj78 (v141, v133, a137.2.1, a137.2.2.1, a137.2.2.2))
                      refine e_icmp_ne (z := tw_cz z a137.2.2.1 a137.2.2.2) (dw_zX X) dL_law_501 (tgt := 508) (by decide) ?_ ?_
                      ·
                        refine e_iconst (z := tw_cz z a137.2.2.1 a137.2.2.2) (dw_zX X) dL_law_508 (v := (0 : Int32)) (by decide) ?_
                        exact hj140 (0 : Int32)
                      ·
                        refine e_iconst (z := tw_cz z a137.2.2.1 a137.2.2.2) (dw_zX X) dL_law_504 (v := (1 : Int32)) (by decide) ?_
                        refine e_goto (z := tw_cz z a137.2.2.1 a137.2.2.2) (dw_zX X) dL_law_505 (tgt := 509) (by decide) ?_
                        exact hj140 (1 : Int32)
                    refine e_if_eq (z := tw_cz z ((a42.2.2.2.2.1 + 21) + 1) ((a42.2.2.2.2.2 + 86) + 6)) (dw_zX X) dL_law_485 (tgt := 499) (by decide) ?_ ?_
                    ·
                      refine e_ldcI (z := tw_cz z ((a42.2.2.2.2.1 + 21) + 1) ((a42.2.2.2.2.2 + 86) + 6)) (dw_zX X) dL_law_499 (v := (-2000000097 : Int32)) _ dw_w1070 ?_
                      exact dw_Rf.sub [0, 3, 4, 5, 6, 7, 8, 9, 10, 11] rfl (hj138 ((-2000000097 : Int32), r136.2, ((a42.2.2.2.2.1 + 21) + 1), ((a42.2.2.2.2.2 + 86) + 6)))
                    ·
                      refine e_aload (z := tw_cz z ((a42.2.2.2.2.1 + 21) + 1) ((a42.2.2.2.2.2 + 86) + 6)) (dw_zX X) dL_law_488 7 rfl ?_
                      refine e_callV (k := r34) (ci := 13) (Cn := "TreasureWalkLaw$Island") (T := TX13) (N := 13) (c := ((a42.2.2.2.2.1 + 21) + 1)) (s := ((a42.2.2.2.2.2 + 86) + 6)) (As := []) (z := tw_cz z ((a42.2.2.2.2.1 + 21) + 1) ((a42.2.2.2.2.2 + 86) + 6)) (dw_zX X) (dw_zA hA) (dw_zb hb) (dw_zD hD) dw_z0 (dw_zM eMC eMS) dL_law_490 (fun Q h => dw_m_X13_left (dw_zD hD) h) dw_y_X13_left dw_v_X13_left _ dw_w682 (by decide) rfl (fun h => dw_E13 h) rfl ⟨dw_zf hfr rfl, dw_zl hlo rfl⟩ (Nat.le_of_ble_eq_true rfl) rfl (fun r142 => ?_)
                      show dw_Rf (tw_cz z (((a42.2.2.2.2.1 + 21) + 1) + 95) (((a42.2.2.2.2.2 + 86) + 6) + 8574)) b _ r142.2 _ [(11, .int v133), (16, .int v129), (15, .int v125), (10, .ref (b + r73.1)), (9, .int a42.2.2.1), (8, .int a42.2.1), (7, .ref (b + q38)), (6, .ref (b + r34)), (5, .ref (b + q23)), (3, .ref (b + 0)), (0, .ref bs), (2, .int x2)] [.ref (b + r142.1), .int r136.1]
                      refine e_callS (c := (((a42.2.2.2.2.1 + 21) + 1) + 95)) (s := (((a42.2.2.2.2.2 + 86) + 6) + 8574)) (As := [.ref (b + r142.1)]) (z := tw_cz z (((a42.2.2.2.2.1 + 21) + 1) + 95) (((a42.2.2.2.2.2 + 86) + 6) + 8574)) (dw_zX X) (dw_zA hA) (dw_zb hb) (dw_zD hD) dw_z0 (dw_zM eMC eMS) dL_law_493 (fun Q h => dw_m_X13_many (dw_zD hD) h) dw_y_X13_many dw_v_X13_many _ dw_w716 rfl ⟨dw_zf hfr rfl, dw_zl hlo rfl⟩ (Nat.le_of_ble_eq_true rfl) rfl (fun r143 => ?_)
                      show dw_Rf (tw_cz z (((a42.2.2.2.2.1 + 21) + 1) + 95) (((a42.2.2.2.2.2 + 86) + 6) + 8574)) b _ r142.2 _ [(11, .int v133), (16, .int v129), (15, .int v125), (10, .ref (b + r73.1)), (9, .int a42.2.2.1), (8, .int a42.2.1), (7, .ref (b + q38)), (6, .ref (b + r34)), (5, .ref (b + q23)), (3, .ref (b + 0)), (0, .ref bs), (2, .int x2)] [.int r143, .int r136.1]
                      refine e_goto (z := tw_cz z (((a42.2.2.2.2.1 + 21) + 1) + 95) (((a42.2.2.2.2.2 + 86) + 6) + 8574)) (dw_zX X) dL_law_496 (tgt := 501) (by decide) ?_
                      exact dw_Rf.sub [0, 3, 4, 5, 6, 7, 8, 9, 10, 11] rfl (hj138 (r143, r142.2, (((a42.2.2.2.2.1 + 21) + 1) + 95), (((a42.2.2.2.2.2 + 86) + 6) + 8574)))
                  refine e_if_eq (z := tw_cz z (a42.2.2.2.2.1 + 21) (a42.2.2.2.2.2 + 86)) (dw_zX X) dL_law_459 (tgt := 475) (by decide) ?_ ?_
                  ·
                    exact hj135 r126.2
                  ·
                    refine e_aload (z := tw_cz z (a42.2.2.2.2.1 + 21) (a42.2.2.2.2.2 + 86)) (dw_zX X) dL_law_462 7 rfl ?_
                    refine e_getf (ci := 13) (T := TX13) (f := 6) (k := r34) (z := tw_cz z (a42.2.2.2.2.1 + 21) (a42.2.2.2.2.2 + 86)) (dw_zX X) dL_law_464 (Or.inl ⟨_, dw_w603⟩) dw_in13 rfl (by decide) (by decide) (fun h => dw_E13 h) rfl ?_
                    refine e_nn (r := (dw_r r126.2 r34 6)) (LL := fun _ => [(11, .int v133), (16, .int v129), (15, .int v125), (10, .ref (b + r73.1)), (9, .int a42.2.2.1), (8, .int a42.2.1), (7, .ref (b + q38)), (6, .ref (b + r34)), (5, .ref (b + q23)), (3, .ref (b + 0)), (0, .ref bs), (2, .int x2)]) (SS := fun q => dw_v b q :: []) (fun r144 => ?_)
                    show dw_Rf (tw_cz z (a42.2.2.2.2.1 + 21) (a42.2.2.2.2.2 + 86)) b _ r126.2 _ [(11, .int v133), (16, .int v129), (15, .int v125), (10, .ref (b + r73.1)), (9, .int a42.2.2.1), (8, .int a42.2.1), (7, .ref (b + q38)), (6, .ref (b + r34)), (5, .ref (b + q23)), (3, .ref (b + 0)), (0, .ref bs), (2, .int x2)] [.ref (b + r144)]
                    refine e_iload (z := tw_cz z (a42.2.2.2.2.1 + 21) (a42.2.2.2.2.2 + 86)) (dw_zX X) dL_law_467 2 rfl ?_
                    refine e_aald (k := r144) (kd := 24) (a := 7) (ty := .object "TreasureWalkLaw$Clue") (z := tw_cz z (a42.2.2.2.2.1 + 21) (a42.2.2.2.2.2 + 86)) (dw_zX X) dL_law_469 (by decide) (fun h => dw_E24 h) rfl rfl ?_
                    refine e_nn (r := (dw_r r126.2 r144 (Int32.toNatClampNeg v125))) (LL := fun _ => [(11, .int v133), (16, .int v129), (15, .int v125), (10, .ref (b + r73.1)), (9, .int a42.2.2.1), (8, .int a42.2.1), (7, .ref (b + q38)), (6, .ref (b + r34)), (5, .ref (b + q23)), (3, .ref (b + 0)), (0, .ref bs), (2, .int x2)]) (SS := fun q => dw_v b q :: []) (fun r145 => ?_)
                    show dw_Rf (tw_cz z (a42.2.2.2.2.1 + 21) (a42.2.2.2.2.2 + 86)) b _ r126.2 _ [(11, .int v133), (16, .int v129), (15, .int v125), (10, .ref (b + r73.1)), (9, .int a42.2.2.1), (8, .int a42.2.1), (7, .ref (b + q38)), (6, .ref (b + r34)), (5, .ref (b + q23)), (3, .ref (b + 0)), (0, .ref bs), (2, .int x2)] [.ref (b + r145)]
                    refine e_iload (z := tw_cz z (a42.2.2.2.2.1 + 21) (a42.2.2.2.2.2 + 86)) (dw_zX X) dL_law_470 1 rfl ?_
                    refine e_ck (fun h01 => ?_)
                    show dw_Rf (tw_cz z (a42.2.2.2.2.1 + 21) (a42.2.2.2.2.2 + 86)) b _ r126.2 _ [(11, .int v133), (16, .int v129), (15, .int v125), (10, .ref (b + r73.1)), (9, .int a42.2.2.1), (8, .int a42.2.1), (7, .ref (b + q38)), (6, .ref (b + r34)), (5, .ref (b + q23)), (3, .ref (b + 0)), (0, .ref bs), (2, .int x2)] (.int v129 :: .ref (b + r145) :: [])
                    refine e_put (ci := 12) (T := TX12) (f := 2) (ty := .boolean) (k := r145) (z := tw_cz z (a42.2.2.2.2.1 + 21) (a42.2.2.2.2.2 + 86)) (dw_zX X) (dw_zb hb) dL_law_472 (Or.inl ⟨_, dw_w674⟩) dw_in12 tyX12 tyX12_ok nmX12 rfl (by decide) rfl (by decide +kernel) (dw_nz h01) (dw_fz h01) (by decide) (fun h => dw_F12 h) (Nat.le_of_ble_eq_true rfl) (fun h => dw_p12_2 h) rfl rfl rfl (fun a ha => dw_E_pi ha) (fun Y146 => ?_)
                    exact hj135 Y146
                refine e_icmp_ge (z := tw_cz z (a42.2.2.2.2.1 + 21) (a42.2.2.2.2.2 + 86)) (dw_zX X) dL_law_447 (tgt := 454) (by decide) ?_ ?_
                ·
                  refine e_iconst (z := tw_cz z (a42.2.2.2.2.1 + 21) (a42.2.2.2.2.2 + 86)) (dw_zX X) dL_law_454 (v := (0 : Int32)) (by decide) ?_
                  exact hj132 (0 : Int32)
                ·
                  refine e_iconst (z := tw_cz z (a42.2.2.2.2.1 + 21) (a42.2.2.2.2.2 + 86)) (dw_zX X) dL_law_450 (v := (1 : Int32)) (by decide) ?_
                  refine e_goto (z := tw_cz z (a42.2.2.2.2.1 + 21) (a42.2.2.2.2.2 + 86)) (dw_zX X) dL_law_451 (tgt := 455) (by decide) ?_
                  exact hj132 (1 : Int32)
              refine e_if_ne (z := tw_cz z (a42.2.2.2.2.1 + 21) (a42.2.2.2.2.2 + 86)) (dw_zX X) dL_law_429 (tgt := 436) (by decide) ?_ ?_
              ·
                refine e_iconst (z := tw_cz z (a42.2.2.2.2.1 + 21) (a42.2.2.2.2.2 + 86)) (dw_zX X) dL_law_436 (v := (0 : Int32)) (by decide) ?_
                exact dw_Rf.sub [0, 3, 4, 5, 6, 8, 9, 10, 11, 12] rfl (hj128 (0 : Int32))
              ·
                refine e_iconst (z := tw_cz z (a42.2.2.2.2.1 + 21) (a42.2.2.2.2.2 + 86)) (dw_zX X) dL_law_432 (v := (1 : Int32)) (by decide) ?_
                refine e_goto (z := tw_cz z (a42.2.2.2.2.1 + 21) (a42.2.2.2.2.2 + 86)) (dw_zX X) dL_law_433 (tgt := 437) (by decide) ?_
                exact dw_Rf.sub [0, 3, 4, 5, 6, 8, 9, 10, 11, 12] rfl (hj128 (1 : Int32))
            refine e_ite (fun h147 => ?_) (fun h147 => ?_)
            ·
              refine e_tsw (z := tw_cz z (a42.2.2.2.2.1 + 21) (a42.2.2.2.2.2 + 86)) (dw_zX X) dL_law_246 h147 (by decide) (by decide) rfl (tgt := 513) (by decide) ?_
              refine e_aload (z := tw_cz z (a42.2.2.2.2.1 + 21) (a42.2.2.2.2.2 + 86)) (dw_zX X) dL_law_513 8 rfl ?_
              refine e_bipush (z := tw_cz z (a42.2.2.2.2.1 + 21) (a42.2.2.2.2.2 + 86)) (dw_zX X) dL_law_515 (v := (40 : Int32)) (by decide) ?_
              refine e_callV (k := q23) (ci := 15) (Cn := "TreasureWalkLaw$Random") (T := TX15) (N := 1) (c := (a42.2.2.2.2.1 + 21)) (s := (a42.2.2.2.2.2 + 86)) (As := [.int (40 : Int32)]) (z := tw_cz z (a42.2.2.2.2.1 + 21) (a42.2.2.2.2.2 + 86)) (dw_zX X) (dw_zA hA) (dw_zb hb) (dw_zD hD) dw_z0 (dw_zM eMC eMS) dL_law_517 (fun Q h => dw_m_X15_below (dw_zD hD) h) dw_y_X15_below dw_v_X15_below _ dw_w743 (by decide) rfl (fun h => dw_E15 h) rfl ⟨dw_zf hfr rfl, dw_zl hlo rfl⟩ (Nat.le_of_ble_eq_true rfl) rfl (fun r148 => ?_)
              show dw_Rf (tw_cz z (a42.2.2.2.2.1 + 21) (a42.2.2.2.2.2 + 86)) b _ r148.2 _ [(12, .int v75), (11, .int v74), (10, .ref (b + r73.1)), (9, .int a42.2.2.1), (8, .int a42.2.1), (7, .ref (b + q38)), (1, .int a42.1), (6, .ref (b + r34)), (5, .ref (b + q23)), (3, .ref (b + 0)), (0, .ref bs), (2, .int x2)] [.int r148.1]
              refine e_istore (z := tw_cz z (a42.2.2.2.2.1 + 21) (a42.2.2.2.2.2 + 86)) (dw_zX X) dL_law_520 (by decide) (LL := fun v149 => [(17, .int v149), (12, .int v75), (11, .int v74), (10, .ref (b + r73.1)), (9, .int a42.2.2.1), (8, .int a42.2.1), (7, .ref (b + q38)), (1, .int a42.1), (6, .ref (b + r34)), (5, .ref (b + q23)), (3, .ref (b + 0)), (0, .ref bs), (2, .int x2)]) (fun _ => rfl) (fun v149 => ?_)
              refine e_aload_n (z := tw_cz z (a42.2.2.2.2.1 + 21) (a42.2.2.2.2.2 + 86)) (dw_zX X) dL_law_522 rfl 10 rfl ?_
              refine e_iload (z := tw_cz z (a42.2.2.2.2.1 + 21) (a42.2.2.2.2.2 + 86)) (dw_zX X) dL_law_523 0 rfl ?_
              refine e_callW (c := (a42.2.2.2.2.1 + 21)) (s := (a42.2.2.2.2.2 + 86)) (As := [.ref (b + 0), .int v149]) (z := tw_cz z (a42.2.2.2.2.1 + 21) (a42.2.2.2.2.2 + 86)) (dw_zX X) (dw_zA hA) (dw_zb hb) (dw_zD hD) dw_z0 (dw_zM eMC eMS) dL_law_525 (fun Q h => dw_m_L_hide hD hst h) dw_y_L_hide _ dw_w1217 rfl ⟨dw_zf hfr rfl, dw_zl hlo rfl⟩ (Nat.le_of_ble_eq_true rfl) rfl (fun r150 => ?_)
              show dw_Rf (tw_cz z ((a42.2.2.2.2.1 + 21) + 1) ((a42.2.2.2.2.2 + 86) + 6)) b _ r150.2 _ [(17, .int v149), (12, .int v75), (11, .int v74), (10, .ref (b + r73.1)), (9, .int a42.2.2.1), (8, .int a42.2.1), (7, .ref (b + q38)), (1, .int a42.1), (6, .ref (b + r34)), (5, .ref (b + q23)), (3, .ref (b + 0)), (0, .ref bs), (2, .int x2)] [.int r150.1]
              refine e_aload (z := tw_cz z ((a42.2.2.2.2.1 + 21) + 1) ((a42.2.2.2.2.2 + 86) + 6)) (dw_zX X) dL_law_528 8 rfl ?_
              refine e_iload (z := tw_cz z ((a42.2.2.2.2.1 + 21) + 1) ((a42.2.2.2.2.2 + 86) + 6)) (dw_zX X) dL_law_530 0 rfl ?_
              refine e_callV (k := r34) (ci := 13) (Cn := "TreasureWalkLaw$Island") (T := TX13) (N := 13) (c := ((a42.2.2.2.2.1 + 21) + 1)) (s := ((a42.2.2.2.2.2 + 86) + 6)) (As := [.int v149]) (z := tw_cz z ((a42.2.2.2.2.1 + 21) + 1) ((a42.2.2.2.2.2 + 86) + 6)) (dw_zX X) (dw_zA hA) (dw_zb hb) (dw_zD hD) dw_z0 (dw_zM eMC eMS) dL_law_532 (fun Q h => dw_m_X13_hides (dw_zD hD) h) dw_y_X13_hides dw_v_X13_hides _ dw_w727 (by decide) rfl (fun h => dw_E13 h) rfl ⟨dw_zf hfr rfl, dw_zl hlo rfl⟩ (Nat.le_of_ble_eq_true rfl) rfl (fun r151 => ?_)
              show dw_Rf (tw_cz z (((a42.2.2.2.2.1 + 21) + 1) + 95) (((a42.2.2.2.2.2 + 86) + 6) + 8574)) b _ r151.2 _ [(17, .int v149), (12, .int v75), (11, .int v74), (10, .ref (b + r73.1)), (9, .int a42.2.2.1), (8, .int a42.2.1), (7, .ref (b + q38)), (1, .int a42.1), (6, .ref (b + r34)), (5, .ref (b + q23)), (3, .ref (b + 0)), (0, .ref bs), (2, .int x2)] [.int r151.1, .int r150.1]
              refine e_jn (α := Int32) (zJ := fun a152 => tw_cz z (((a42.2.2.2.2.1 + 21) + 1) + 95) (((a42.2.2.2.2.2 + 86) + 6) + 8574)) (YJ := fun a152 => r151.2) (pcJ := 543) (LJ := fun a152 => [(11, .int v74), (10, .ref (b + r73.1)), (9, .int a42.2.2.1), (8, .int a42.2.1), (7, .ref (b + q38)), (6, .ref (b + r34)), (5, .ref (b + q23)), (3, .ref (b + 0)), (0, .ref bs), (2, .int x2)]) (stJ := fun a152 => [.int a152]) (fun a152 => ?_) (fun j153 hj153 => ?_)
              ·
                refine e_istore_n (z := tw_cz z (((a42.2.2.2.2.1 + 21) + 1) + 95) (((a42.2.2.2.2.2 + 86) + 6) + 8574)) (dw_zX X) dL_law_543 rfl (by decide) (LL := fun v154 => [(1, .int v154), (11, .int v74), (10, .ref (b + r73.1)), (9, .int a42.2.2.1), (8, .int a42.2.1), (7, .ref (b + q38)), (6, .ref (b + r34)), (5, .ref (b + q23)), (3, .ref (b + 0)), (0, .ref bs), (2, .int x2)]) (fun _ => rfl) (fun v154 => ?_)
                refine e_goto (z := tw_cz z (((a42.2.2.2.2.1 + 21) + 1) + 95) (((a42.2.2.2.2.2 + 86) + 6) + 8574)) (dw_zX X) dL_law_544 (tgt := 689) (by decide) ?_
                exact dw_Rf.sub [1, 2, 3, 4, 5, 0, 6, 7, 8, 9, 10] rfl (hj78 (v154, v74, r151.2, (((a42.2.2.2.2.1 + 21) + 1) + 95), (((a42.2.2.2.2.2 + 86) + 6) + 8574)))
              refine e_icmp_ne (z := tw_cz z (((a42.2.2.2.2.1 + 21) + 1) + 95) (((a42.2.2.2.2.2 + 86) + 6) + 8574)) (dw_zX X) dL_law_535 (tgt := 542) (by decide) ?_ ?_
              ·
                refine e_iconst (z := tw_cz z (((a42.2.2.2.2.1 + 21) + 1) + 95) (((a42.2.2.2.2.2 + 86) + 6) + 8574)) (dw_zX X) dL_law_542 (v := (0 : Int32)) (by decide) ?_
                exact dw_Rf.sub [2, 3, 4, 5, 6, 8, 9, 10, 11, 12] rfl (hj153 (0 : Int32))
              ·
                refine e_iconst (z := tw_cz z (((a42.2.2.2.2.1 + 21) + 1) + 95) (((a42.2.2.2.2.2 + 86) + 6) + 8574)) (dw_zX X) dL_law_538 (v := (1 : Int32)) (by decide) ?_
                refine e_goto (z := tw_cz z (((a42.2.2.2.2.1 + 21) + 1) + 95) (((a42.2.2.2.2.2 + 86) + 6) + 8574)) (dw_zX X) dL_law_539 (tgt := 543) (by decide) ?_
                exact dw_Rf.sub [2, 3, 4, 5, 6, 8, 9, 10, 11, 12] rfl (hj153 (1 : Int32))
            refine e_tswD (z := tw_cz z (a42.2.2.2.2.1 + 21) (a42.2.2.2.2.2 + 86)) (dw_zX X) dL_law_246 (tgt := 547) (dw_out4 h114 h115 h116 h122 h147) (by decide) ?_
            refine e_aload (z := tw_cz z (a42.2.2.2.2.1 + 21) (a42.2.2.2.2.2 + 86)) (dw_zX X) dL_law_547 8 rfl ?_
            refine e_aload (z := tw_cz z (a42.2.2.2.2.1 + 21) (a42.2.2.2.2.2 + 86)) (dw_zX X) dL_law_549 7 rfl ?_
            refine e_getf (ci := 13) (T := TX13) (f := 5) (k := r34) (z := tw_cz z (a42.2.2.2.2.1 + 21) (a42.2.2.2.2.2 + 86)) (dw_zX X) dL_law_551 (Or.inl ⟨_, dw_w601⟩) dw_in13 rfl (by decide) (by decide) (fun h => dw_E13 h) rfl ?_
            refine e_nn (r := (dw_r r76.2 r34 5)) (LL := fun _ => [(12, .int v75), (11, .int v74), (10, .ref (b + r73.1)), (9, .int a42.2.2.1), (8, .int a42.2.1), (7, .ref (b + q38)), (1, .int a42.1), (6, .ref (b + r34)), (5, .ref (b + q23)), (3, .ref (b + 0)), (0, .ref bs), (2, .int x2)]) (SS := fun q => dw_v b q :: [.ref (b + q23)]) (fun r155 => ?_)
            show dw_Rf (tw_cz z (a42.2.2.2.2.1 + 21) (a42.2.2.2.2.2 + 86)) b _ r76.2 _ [(12, .int v75), (11, .int v74), (10, .ref (b + r73.1)), (9, .int a42.2.2.1), (8, .int a42.2.1), (7, .ref (b + q38)), (1, .int a42.1), (6, .ref (b + r34)), (5, .ref (b + q23)), (3, .ref (b + 0)), (0, .ref bs), (2, .int x2)] [.ref (b + r155), .ref (b + q23)]
            refine e_alen (k := r155) (kd := 26) (a := 4) (ty := .array .int) (x := (0, .inr (.inr (.inr (.inr (fun j => Option.map (fun a => b + a) (dw_r r76.2 r155 j))))))) (z := tw_cz z (a42.2.2.2.2.1 + 21) (a42.2.2.2.2.2 + 86)) (dw_zX X) dL_law_554 (by decide) (fun h => dw_E26 h) rfl ?_
            refine e_iconst (z := tw_cz z (a42.2.2.2.2.1 + 21) (a42.2.2.2.2.2 + 86)) (dw_zX X) dL_law_555 (v := (1 : Int32)) (by decide) ?_
            refine e_iadd (z := tw_cz z (a42.2.2.2.2.1 + 21) (a42.2.2.2.2.2 + 86)) (dw_zX X) dL_law_556 ?_
            refine e_callV (k := q23) (ci := 15) (Cn := "TreasureWalkLaw$Random") (T := TX15) (N := 1) (c := (a42.2.2.2.2.1 + 21)) (s := (a42.2.2.2.2.2 + 86)) (As := [.int ((Int32.ofNat (dw_l r76.2 r155)) + (1 : Int32))]) (z := tw_cz z (a42.2.2.2.2.1 + 21) (a42.2.2.2.2.2 + 86)) (dw_zX X) (dw_zA hA) (dw_zb hb) (dw_zD hD) dw_z0 (dw_zM eMC eMS) dL_law_557 (fun Q h => dw_m_X15_below (dw_zD hD) h) dw_y_X15_below dw_v_X15_below _ dw_w743 (by decide) rfl (fun h => dw_E15 h) rfl ⟨dw_zf hfr rfl, dw_zl hlo rfl⟩ (Nat.le_of_ble_eq_true rfl) rfl (fun r156 => ?_)
            show dw_Rf (tw_cz z (a42.2.2.2.2.1 + 21) (a42.2.2.2.2.2 + 86)) b _ r156.2 _ [(12, .int v75), (11, .int v74), (10, .ref (b + r73.1)), (9, .int a42.2.2.1), (8, .int a42.2.1), (7, .ref (b + q38)), (1, .int a42.1), (6, .ref (b + r34)), (5, .ref (b + q23)), (3, .ref (b + 0)), (0, .ref bs), (2, .int x2)] [.int r156.1]
            refine e_istore (z := tw_cz z (a42.2.2.2.2.1 + 21) (a42.2.2.2.2.2 + 86)) (dw_zX X) dL_law_560 (by decide) (LL := fun v157 => [(18, .int v157), (12, .int v75), (11, .int v74), (10, .ref (b + r73.1)), (9, .int a42.2.2.1), (8, .int a42.2.1), (7, .ref (b + q38)), (1, .int a42.1), (6, .ref (b + r34)), (5, .ref (b + q23)), (3, .ref (b + 0)), (0, .ref bs), (2, .int x2)]) (fun _ => rfl) (fun v157 => ?_)
            refine e_aload (z := tw_cz z (a42.2.2.2.2.1 + 21) (a42.2.2.2.2.2 + 86)) (dw_zX X) dL_law_562 9 rfl ?_
            refine e_bipush (z := tw_cz z (a42.2.2.2.2.1 + 21) (a42.2.2.2.2.2 + 86)) (dw_zX X) dL_law_564 (v := (9 : Int32)) (by decide) ?_
            refine e_callV (k := q23) (ci := 15) (Cn := "TreasureWalkLaw$Random") (T := TX15) (N := 1) (c := (a42.2.2.2.2.1 + 21)) (s := (a42.2.2.2.2.2 + 86)) (As := [.int (9 : Int32)]) (z := tw_cz z (a42.2.2.2.2.1 + 21) (a42.2.2.2.2.2 + 86)) (dw_zX X) (dw_zA hA) (dw_zb hb) (dw_zD hD) dw_z0 (dw_zM eMC eMS) dL_law_566 (fun Q h => dw_m_X15_below (dw_zD hD) h) dw_y_X15_below dw_v_X15_below _ dw_w743 (by decide) rfl (fun h => dw_E15 h) rfl ⟨dw_zf hfr rfl, dw_zl hlo rfl⟩ (Nat.le_of_ble_eq_true rfl) rfl (fun r158 => ?_)
            show dw_Rf (tw_cz z (a42.2.2.2.2.1 + 21) (a42.2.2.2.2.2 + 86)) b _ r158.2 _ [(18, .int v157), (12, .int v75), (11, .int v74), (10, .ref (b + r73.1)), (9, .int a42.2.2.1), (8, .int a42.2.1), (7, .ref (b + q38)), (1, .int a42.1), (6, .ref (b + r34)), (5, .ref (b + q23)), (3, .ref (b + 0)), (0, .ref bs), (2, .int x2)] [.int r158.1]
            refine e_iconst (z := tw_cz z (a42.2.2.2.2.1 + 21) (a42.2.2.2.2.2 + 86)) (dw_zX X) dL_law_569 (v := (4 : Int32)) (by decide) ?_
            refine e_isub (z := tw_cz z (a42.2.2.2.2.1 + 21) (a42.2.2.2.2.2 + 86)) (dw_zX X) dL_law_570 ?_
            refine e_istore (z := tw_cz z (a42.2.2.2.2.1 + 21) (a42.2.2.2.2.2 + 86)) (dw_zX X) dL_law_571 (by decide) (LL := fun v159 => [(19, .int v159), (18, .int v157), (12, .int v75), (11, .int v74), (10, .ref (b + r73.1)), (9, .int a42.2.2.1), (8, .int a42.2.1), (7, .ref (b + q38)), (1, .int a42.1), (6, .ref (b + r34)), (5, .ref (b + q23)), (3, .ref (b + 0)), (0, .ref bs), (2, .int x2)]) (fun _ => rfl) (fun v159 => ?_)
            refine e_iload (z := tw_cz z (a42.2.2.2.2.1 + 21) (a42.2.2.2.2.2 + 86)) (dw_zX X) dL_law_573 1 rfl ?_
            refine e_aload (z := tw_cz z (a42.2.2.2.2.1 + 21) (a42.2.2.2.2.2 + 86)) (dw_zX X) dL_law_575 9 rfl ?_
            refine e_getf (ci := 13) (T := TX13) (f := 5) (k := r34) (z := tw_cz z (a42.2.2.2.2.1 + 21) (a42.2.2.2.2.2 + 86)) (dw_zX X) dL_law_577 (Or.inl ⟨_, dw_w601⟩) dw_in13 rfl (by decide) (by decide) (fun h => dw_E13 h) rfl ?_
            refine e_nn (r := (dw_r r158.2 r34 5)) (LL := fun _ => [(19, .int v159), (18, .int v157), (12, .int v75), (11, .int v74), (10, .ref (b + r73.1)), (9, .int a42.2.2.1), (8, .int a42.2.1), (7, .ref (b + q38)), (1, .int a42.1), (6, .ref (b + r34)), (5, .ref (b + q23)), (3, .ref (b + 0)), (0, .ref bs), (2, .int x2)]) (SS := fun q => dw_v b q :: [.int v157]) (fun r160 => ?_)
            show dw_Rf (tw_cz z (a42.2.2.2.2.1 + 21) (a42.2.2.2.2.2 + 86)) b _ r158.2 _ [(19, .int v159), (18, .int v157), (12, .int v75), (11, .int v74), (10, .ref (b + r73.1)), (9, .int a42.2.2.1), (8, .int a42.2.1), (7, .ref (b + q38)), (1, .int a42.1), (6, .ref (b + r34)), (5, .ref (b + q23)), (3, .ref (b + 0)), (0, .ref bs), (2, .int x2)] [.ref (b + r160), .int v157]
            refine e_alen (k := r160) (kd := 26) (a := 4) (ty := .array .int) (x := (0, .inr (.inr (.inr (.inr (fun j => Option.map (fun a => b + a) (dw_r r158.2 r160 j))))))) (z := tw_cz z (a42.2.2.2.2.1 + 21) (a42.2.2.2.2.2 + 86)) (dw_zX X) dL_law_580 (by decide) (fun h => dw_E26 h) rfl ?_
            refine e_jn (α := Int32) (zJ := fun a161 => tw_cz z (a42.2.2.2.2.1 + 21) (a42.2.2.2.2.2 + 86)) (YJ := fun a161 => r158.2) (pcJ := 589) (LJ := fun a161 => [(19, .int v159), (18, .int v157), (10, .ref (b + r73.1)), (9, .int a42.2.2.1), (8, .int a42.2.1), (7, .ref (b + q38)), (6, .ref (b + r34)), (5, .ref (b + q23)), (3, .ref (b + 0)), (0, .ref bs), (2, .int x2)]) (stJ := fun a161 => [.int a161]) (fun a161 => ?_) (fun j162 hj162 => ?_)
            ·
              refine e_istore (z := tw_cz z (a42.2.2.2.2.1 + 21) (a42.2.2.2.2.2 + 86)) (dw_zX X) dL_law_589 (by decide) (LL := fun v163 => [(20, .int v163), (19, .int v159), (18, .int v157), (10, .ref (b + r73.1)), (9, .int a42.2.2.1), (8, .int a42.2.1), (7, .ref (b + q38)), (6, .ref (b + r34)), (5, .ref (b + q23)), (3, .ref (b + 0)), (0, .ref bs), (2, .int x2)]) (fun _ => rfl) (fun v163 => ?_)
              refine e_iload (z := tw_cz z (a42.2.2.2.2.1 + 21) (a42.2.2.2.2.2 + 86)) (dw_zX X) dL_law_591 0 rfl ?_
              refine e_jn (α := Int32) (zJ := fun a164 => tw_cz z (a42.2.2.2.2.1 + 21) (a42.2.2.2.2.2 + 86)) (YJ := fun a164 => r158.2) (pcJ := 610) (LJ := fun a164 => [(20, .int v163), (19, .int v159), (18, .int v157), (10, .ref (b + r73.1)), (9, .int a42.2.2.1), (8, .int a42.2.1), (7, .ref (b + q38)), (6, .ref (b + r34)), (5, .ref (b + q23)), (3, .ref (b + 0)), (0, .ref bs), (2, .int x2)]) (stJ := fun a164 => [.int a164]) (fun a164 => ?_) (fun j165 hj165 => ?_)
              ·
                refine e_istore (z := tw_cz z (a42.2.2.2.2.1 + 21) (a42.2.2.2.2.2 + 86)) (dw_zX X) dL_law_610 (by decide) (LL := fun v166 => [(11, .int v166), (20, .int v163), (19, .int v159), (18, .int v157), (10, .ref (b + r73.1)), (9, .int a42.2.2.1), (8, .int a42.2.1), (7, .ref (b + q38)), (6, .ref (b + r34)), (5, .ref (b + q23)), (3, .ref (b + 0)), (0, .ref bs), (2, .int x2)]) (fun _ => rfl) (fun v166 => ?_)
                refine e_iload (z := tw_cz z (a42.2.2.2.2.1 + 21) (a42.2.2.2.2.2 + 86)) (dw_zX X) dL_law_612 1 rfl ?_
                refine e_jn (α := Int32) (zJ := fun a167 => tw_cz z (a42.2.2.2.2.1 + 21) (a42.2.2.2.2.2 + 86)) (YJ := fun a167 => r158.2) (pcJ := 631) (LJ := fun a167 => [(11, .int v166), (20, .int v163), (19, .int v159), (18, .int v157), (10, .ref (b + r73.1)), (9, .int a42.2.2.1), (8, .int a42.2.1), (7, .ref (b + q38)), (6, .ref (b + r34)), (5, .ref (b + q23)), (3, .ref (b + 0)), (0, .ref bs), (2, .int x2)]) (stJ := fun a167 => [.int a167]) (fun a167 => ?_) (fun j168 hj168 => ?_)
                ·
                  refine e_istore (z := tw_cz z (a42.2.2.2.2.1 + 21) (a42.2.2.2.2.2 + 86)) (dw_zX X) dL_law_631 (by decide) (LL := fun v169 => [(21, .int v169), (11, .int v166), (20, .int v163), (19, .int v159), (18, .int v157), (10, .ref (b + r73.1)), (9, .int a42.2.2.1), (8, .int a42.2.1), (7, .ref (b + q38)), (6, .ref (b + r34)), (5, .ref (b + q23)), (3, .ref (b + 0)), (0, .ref bs), (2, .int x2)]) (fun _ => rfl) (fun v169 => ?_)
                  refine e_iload (z := tw_cz z (a42.2.2.2.2.1 + 21) (a42.2.2.2.2.2 + 86)) (dw_zX X) dL_law_633 1 rfl ?_
                  refine e_jn (α := dw_S) (zJ := fun a170 => tw_cz z (a42.2.2.2.2.1 + 21) (a42.2.2.2.2.2 + 86)) (YJ := fun a170 => a170) (pcJ := 650) (LJ := fun a170 => [(21, .int v169), (11, .int v166), (20, .int v163), (19, .int v159), (18, .int v157), (10, .ref (b + r73.1)), (9, .int a42.2.2.1), (8, .int a42.2.1), (7, .ref (b + q38)), (6, .ref (b + r34)), (5, .ref (b + q23)), (3, .ref (b + 0)), (0, .ref bs), (2, .int x2)]) (stJ := fun a170 => []) (fun a170 => ?_) (fun j171 hj171 => ?_)
                  ·
                    refine e_aload_n (z := tw_cz z (a42.2.2.2.2.1 + 21) (a42.2.2.2.2.2 + 86)) (dw_zX X) dL_law_650 rfl 11 rfl ?_
                    refine e_iload (z := tw_cz z (a42.2.2.2.2.1 + 21) (a42.2.2.2.2.2 + 86)) (dw_zX X) dL_law_651 4 rfl ?_
                    refine e_iload (z := tw_cz z (a42.2.2.2.2.1 + 21) (a42.2.2.2.2.2 + 86)) (dw_zX X) dL_law_653 3 rfl ?_
                    refine e_callW (c := (a42.2.2.2.2.1 + 21)) (s := (a42.2.2.2.2.2 + 86)) (As := [.ref (b + 0), .int v157, .int v159]) (z := tw_cz z (a42.2.2.2.2.1 + 21) (a42.2.2.2.2.2 + 86)) (dw_zX X) (dw_zA hA) (dw_zb hb) (dw_zD hD) dw_z0 (dw_zM eMC eMS) dL_law_655 (fun Q h => dw_m_L_turn hD hst h) dw_y_L_turn _ dw_w1226 rfl ⟨dw_zf hfr rfl, dw_zl hlo rfl⟩ (Nat.le_of_ble_eq_true rfl) rfl (fun r172 => ?_)
                    show dw_Rf (tw_cz z ((a42.2.2.2.2.1 + 21) + 1) ((a42.2.2.2.2.2 + 86) + 6)) b _ r172.2 _ [(21, .int v169), (11, .int v166), (20, .int v163), (19, .int v159), (18, .int v157), (10, .ref (b + r73.1)), (9, .int a42.2.2.1), (8, .int a42.2.1), (7, .ref (b + q38)), (6, .ref (b + r34)), (5, .ref (b + q23)), (3, .ref (b + 0)), (0, .ref bs), (2, .int x2)] [.int r172.1]
                    refine e_iload (z := tw_cz z ((a42.2.2.2.2.1 + 21) + 1) ((a42.2.2.2.2.2 + 86) + 6)) (dw_zX X) dL_law_658 1 rfl ?_
                    refine e_jn (α := Int32) (zJ := fun a173 => tw_cz z ((a42.2.2.2.2.1 + 21) + 1) ((a42.2.2.2.2.2 + 86) + 6)) (YJ := fun a173 => r172.2) (pcJ := 680) (LJ := fun a173 => [(11, .int v166), (10, .ref (b + r73.1)), (9, .int a42.2.2.1), (8, .int a42.2.1), (7, .ref (b + q38)), (6, .ref (b + r34)), (5, .ref (b + q23)), (3, .ref (b + 0)), (0, .ref bs), (2, .int x2)]) (stJ := fun a173 => [.int a173, .int r172.1]) (fun a173 => ?_) (fun j174 hj174 => ?_)
                    ·
                      refine e_jn (α := Int32) (zJ := fun a175 => tw_cz z ((a42.2.2.2.2.1 + 21) + 1) ((a42.2.2.2.2.2 + 86) + 6)) (YJ := fun a175 => r172.2) (pcJ := 688) (LJ := fun a175 => [(11, .int v166), (10, .ref (b + r73.1)), (9, .int a42.2.2.1), (8, .int a42.2.1), (7, .ref (b + q38)), (6, .ref (b + r34)), (5, .ref (b + q23)), (3, .ref (b + 0)), (0, .ref bs), (2, .int x2)]) (stJ := fun a175 => [.int a175]) (fun a175 => ?_) (fun j176 hj176 => ?_)
                      ·
                        refine e_istore_n (z := tw_cz z ((a42.2.2.2.2.1 + 21) + 1) ((a42.2.2.2.2.2 + 86) + 6)) (dw_zX X) dL_law_688 rfl (by decide) (LL := fun v177 => [(1, .int v177), (11, .int v166), (10, .ref (b + r73.1)), (9, .int a42.2.2.1), (8, .int a42.2.1), (7, .ref (b + q38)), (6, .ref (b + r34)), (5, .ref (b + q23)), (3, .ref (b + 0)), (0, .ref bs), (2, .int x2)]) (fun _ => rfl) (fun v177 => ?_)
                        exact dw_Rf.sub [1, 2, 3, 4, 5, 0, 6, 7, 8, 9, 10] rfl (hj78 (v177, v166, r172.2, ((a42.2.2.2.2.1 + 21) + 1), ((a42.2.2.2.2.2 + 86) + 6)))
                      refine e_icmp_ne (z := tw_cz z ((a42.2.2.2.2.1 + 21) + 1) ((a42.2.2.2.2.2 + 86) + 6)) (dw_zX X) dL_law_680 (tgt := 687) (by decide) ?_ ?_
                      ·
                        refine e_iconst (z := tw_cz z ((a42.2.2.2.2.1 + 21) + 1) ((a42.2.2.2.2.2 + 86) + 6)) (dw_zX X) dL_law_687 (v := (0 : Int32)) (by decide) ?_
                        exact hj176 (0 : Int32)
                      ·
                        refine e_iconst (z := tw_cz z ((a42.2.2.2.2.1 + 21) + 1) ((a42.2.2.2.2.2 + 86) + 6)) (dw_zX X) dL_law_683 (v := (1 : Int32)) (by decide) ?_
                        refine e_goto (z := tw_cz z ((a42.2.2.2.2.1 + 21) + 1) ((a42.2.2.2.2.2 + 86) + 6)) (dw_zX X) dL_law_684 (tgt := 688) (by decide) ?_
                        exact hj176 (1 : Int32)
                    refine e_if_eq (z := tw_cz z ((a42.2.2.2.2.1 + 21) + 1) ((a42.2.2.2.2.2 + 86) + 6)) (dw_zX X) dL_law_660 (tgt := 668) (by decide) ?_ ?_
                    ·
                      refine e_iload (z := tw_cz z ((a42.2.2.2.2.1 + 21) + 1) ((a42.2.2.2.2.2 + 86) + 6)) (dw_zX X) dL_law_668 2 rfl ?_
                      refine e_if_eq (z := tw_cz z ((a42.2.2.2.2.1 + 21) + 1) ((a42.2.2.2.2.2 + 86) + 6)) (dw_zX X) dL_law_670 (tgt := 678) (by decide) ?_ ?_
                      ·
                        refine e_ldcI (z := tw_cz z ((a42.2.2.2.2.1 + 21) + 1) ((a42.2.2.2.2.2 + 86) + 6)) (dw_zX X) dL_law_678 (v := (-2000000097 : Int32)) _ dw_w1070 ?_
                        exact dw_Rf.sub [1, 5, 6, 7, 8, 9, 10, 11, 12, 13] rfl (hj174 (-2000000097 : Int32))
                      ·
                        refine e_ldcI (z := tw_cz z ((a42.2.2.2.2.1 + 21) + 1) ((a42.2.2.2.2.2 + 86) + 6)) (dw_zX X) dL_law_673 (v := (-2000000098 : Int32)) _ dw_w1033 ?_
                        refine e_goto (z := tw_cz z ((a42.2.2.2.2.1 + 21) + 1) ((a42.2.2.2.2.2 + 86) + 6)) (dw_zX X) dL_law_675 (tgt := 680) (by decide) ?_
                        exact dw_Rf.sub [1, 5, 6, 7, 8, 9, 10, 11, 12, 13] rfl (hj174 (-2000000098 : Int32))
                    ·
                      refine e_iload (z := tw_cz z ((a42.2.2.2.2.1 + 21) + 1) ((a42.2.2.2.2.2 + 86) + 6)) (dw_zX X) dL_law_663 0 rfl ?_
                      refine e_goto (z := tw_cz z ((a42.2.2.2.2.1 + 21) + 1) ((a42.2.2.2.2.2 + 86) + 6)) (dw_zX X) dL_law_665 (tgt := 680) (by decide) ?_
                      exact dw_Rf.sub [1, 5, 6, 7, 8, 9, 10, 11, 12, 13] rfl (hj174 v169)
                  refine e_if_eq (z := tw_cz z (a42.2.2.2.2.1 + 21) (a42.2.2.2.2.2 + 86)) (dw_zX X) dL_law_635 (tgt := 650) (by decide) ?_ ?_
                  ·
                    exact hj171 r158.2
                  ·
                    refine e_aload (z := tw_cz z (a42.2.2.2.2.1 + 21) (a42.2.2.2.2.2 + 86)) (dw_zX X) dL_law_638 9 rfl ?_
                    refine e_getf (ci := 13) (T := TX13) (f := 5) (k := r34) (z := tw_cz z (a42.2.2.2.2.1 + 21) (a42.2.2.2.2.2 + 86)) (dw_zX X) dL_law_640 (Or.inl ⟨_, dw_w601⟩) dw_in13 rfl (by decide) (by decide) (fun h => dw_E13 h) rfl ?_
                    refine e_nn (r := (dw_r r158.2 r34 5)) (LL := fun _ => [(21, .int v169), (11, .int v166), (20, .int v163), (19, .int v159), (18, .int v157), (10, .ref (b + r73.1)), (9, .int a42.2.2.1), (8, .int a42.2.1), (7, .ref (b + q38)), (6, .ref (b + r34)), (5, .ref (b + q23)), (3, .ref (b + 0)), (0, .ref bs), (2, .int x2)]) (SS := fun q => dw_v b q :: []) (fun r178 => ?_)
                    show dw_Rf (tw_cz z (a42.2.2.2.2.1 + 21) (a42.2.2.2.2.2 + 86)) b _ r158.2 _ [(21, .int v169), (11, .int v166), (20, .int v163), (19, .int v159), (18, .int v157), (10, .ref (b + r73.1)), (9, .int a42.2.2.1), (8, .int a42.2.1), (7, .ref (b + q38)), (6, .ref (b + r34)), (5, .ref (b + q23)), (3, .ref (b + 0)), (0, .ref bs), (2, .int x2)] [.ref (b + r178)]
                    refine e_iload (z := tw_cz z (a42.2.2.2.2.1 + 21) (a42.2.2.2.2.2 + 86)) (dw_zX X) dL_law_643 4 rfl ?_
                    refine e_aald (k := r178) (kd := 26) (a := 4) (ty := .array .int) (z := tw_cz z (a42.2.2.2.2.1 + 21) (a42.2.2.2.2.2 + 86)) (dw_zX X) dL_law_645 (by decide) (fun h => dw_E26 h) rfl rfl ?_
                    refine e_nn (r := (dw_r r158.2 r178 (Int32.toNatClampNeg v157))) (LL := fun _ => [(21, .int v169), (11, .int v166), (20, .int v163), (19, .int v159), (18, .int v157), (10, .ref (b + r73.1)), (9, .int a42.2.2.1), (8, .int a42.2.1), (7, .ref (b + q38)), (6, .ref (b + r34)), (5, .ref (b + q23)), (3, .ref (b + 0)), (0, .ref bs), (2, .int x2)]) (SS := fun q => dw_v b q :: []) (fun r179 => ?_)
                    show dw_Rf (tw_cz z (a42.2.2.2.2.1 + 21) (a42.2.2.2.2.2 + 86)) b _ r158.2 _ [(21, .int v169), (11, .int v166), (20, .int v163), (19, .int v159), (18, .int v157), (10, .ref (b + r73.1)), (9, .int a42.2.2.1), (8, .int a42.2.1), (7, .ref (b + q38)), (6, .ref (b + r34)), (5, .ref (b + q23)), (3, .ref (b + 0)), (0, .ref bs), (2, .int x2)] [.ref (b + r179)]
                    refine e_iconst (z := tw_cz z (a42.2.2.2.2.1 + 21) (a42.2.2.2.2.2 + 86)) (dw_zX X) dL_law_646 (v := (4 : Int32)) (by decide) ?_
                    refine e_iload (z := tw_cz z (a42.2.2.2.2.1 + 21) (a42.2.2.2.2.2 + 86)) (dw_zX X) dL_law_647 3 rfl ?_
                    refine e_iast (k := r179) (z := tw_cz z (a42.2.2.2.2.1 + 21) (a42.2.2.2.2.2 + 86)) (dw_zX X) (dw_zb hb) dL_law_649 (fun Y180 => ?_)
                    exact hj171 Y180
                refine e_if_eq (z := tw_cz z (a42.2.2.2.2.1 + 21) (a42.2.2.2.2.2 + 86)) (dw_zX X) dL_law_614 (tgt := 630) (by decide) ?_ ?_
                ·
                  refine e_iconst (z := tw_cz z (a42.2.2.2.2.1 + 21) (a42.2.2.2.2.2 + 86)) (dw_zX X) dL_law_630 (v := (0 : Int32)) (by decide) ?_
                  exact hj168 (0 : Int32)
                ·
                  refine e_aload (z := tw_cz z (a42.2.2.2.2.1 + 21) (a42.2.2.2.2.2 + 86)) (dw_zX X) dL_law_617 8 rfl ?_
                  refine e_getf (ci := 13) (T := TX13) (f := 5) (k := r34) (z := tw_cz z (a42.2.2.2.2.1 + 21) (a42.2.2.2.2.2 + 86)) (dw_zX X) dL_law_619 (Or.inl ⟨_, dw_w601⟩) dw_in13 rfl (by decide) (by decide) (fun h => dw_E13 h) rfl ?_
                  refine e_nn (r := (dw_r r158.2 r34 5)) (LL := fun _ => [(11, .int v166), (20, .int v163), (19, .int v159), (18, .int v157), (10, .ref (b + r73.1)), (9, .int a42.2.2.1), (8, .int a42.2.1), (7, .ref (b + q38)), (6, .ref (b + r34)), (5, .ref (b + q23)), (3, .ref (b + 0)), (0, .ref bs), (2, .int x2)]) (SS := fun q => dw_v b q :: []) (fun r181 => ?_)
                  show dw_Rf (tw_cz z (a42.2.2.2.2.1 + 21) (a42.2.2.2.2.2 + 86)) b _ r158.2 _ [(11, .int v166), (20, .int v163), (19, .int v159), (18, .int v157), (10, .ref (b + r73.1)), (9, .int a42.2.2.1), (8, .int a42.2.1), (7, .ref (b + q38)), (6, .ref (b + r34)), (5, .ref (b + q23)), (3, .ref (b + 0)), (0, .ref bs), (2, .int x2)] [.ref (b + r181)]
                  refine e_iload (z := tw_cz z (a42.2.2.2.2.1 + 21) (a42.2.2.2.2.2 + 86)) (dw_zX X) dL_law_622 3 rfl ?_
                  refine e_aald (k := r181) (kd := 26) (a := 4) (ty := .array .int) (z := tw_cz z (a42.2.2.2.2.1 + 21) (a42.2.2.2.2.2 + 86)) (dw_zX X) dL_law_624 (by decide) (fun h => dw_E26 h) rfl rfl ?_
                  refine e_nn (r := (dw_r r158.2 r181 (Int32.toNatClampNeg v157))) (LL := fun _ => [(11, .int v166), (20, .int v163), (19, .int v159), (18, .int v157), (10, .ref (b + r73.1)), (9, .int a42.2.2.1), (8, .int a42.2.1), (7, .ref (b + q38)), (6, .ref (b + r34)), (5, .ref (b + q23)), (3, .ref (b + 0)), (0, .ref bs), (2, .int x2)]) (SS := fun q => dw_v b q :: []) (fun r182 => ?_)
                  show dw_Rf (tw_cz z (a42.2.2.2.2.1 + 21) (a42.2.2.2.2.2 + 86)) b _ r158.2 _ [(11, .int v166), (20, .int v163), (19, .int v159), (18, .int v157), (10, .ref (b + r73.1)), (9, .int a42.2.2.1), (8, .int a42.2.1), (7, .ref (b + q38)), (6, .ref (b + r34)), (5, .ref (b + q23)), (3, .ref (b + 0)), (0, .ref bs), (2, .int x2)] [.ref (b + r182)]
                  refine e_iconst (z := tw_cz z (a42.2.2.2.2.1 + 21) (a42.2.2.2.2.2 + 86)) (dw_zX X) dL_law_625 (v := (4 : Int32)) (by decide) ?_
                  refine e_iald (k := r182) (z := tw_cz z (a42.2.2.2.2.1 + 21) (a42.2.2.2.2.2 + 86)) (dw_zX X) dL_law_626 ?_
                  refine e_goto (z := tw_cz z (a42.2.2.2.2.1 + 21) (a42.2.2.2.2.2 + 86)) (dw_zX X) dL_law_627 (tgt := 631) (by decide) ?_
                  exact hj168 (dw_i r158.2 r182 (Int32.toNatClampNeg (4 : Int32)))
              refine e_jn (α := Unit) (zJ := fun a183 => tw_cz z (a42.2.2.2.2.1 + 21) (a42.2.2.2.2.2 + 86)) (YJ := fun a183 => r158.2) (pcJ := 609) (LJ := fun a183 => [(20, .int v163), (19, .int v159), (18, .int v157), (10, .ref (b + r73.1)), (9, .int a42.2.2.1), (8, .int a42.2.1), (7, .ref (b + q38)), (6, .ref (b + r34)), (5, .ref (b + q23)), (3, .ref (b + 0)), (0, .ref bs), (2, .int x2)]) (stJ := fun a183 => []) (fun a183 => ?_) (fun j184 hj184 => ?_)
              ·
                refine e_iconst (z := tw_cz z (a42.2.2.2.2.1 + 21) (a42.2.2.2.2.2 + 86)) (dw_zX X) dL_law_609 (v := (0 : Int32)) (by decide) ?_
                exact hj165 (0 : Int32)
              refine e_if_eq (z := tw_cz z (a42.2.2.2.2.1 + 21) (a42.2.2.2.2.2 + 86)) (dw_zX X) dL_law_593 (tgt := 609) (by decide) ?_ ?_
              ·
                exact hj184 ()
              ·
                refine e_iload (z := tw_cz z (a42.2.2.2.2.1 + 21) (a42.2.2.2.2.2 + 86)) (dw_zX X) dL_law_596 1 rfl ?_
                refine e_ck (fun hm185 => ?_)
                refine e_mabs (z := tw_cz z (a42.2.2.2.2.1 + 21) (a42.2.2.2.2.2 + 86)) X ⟨by show (a42.2.2.2.2.1 + 21) ≤ (tw_zR z).cells; rw [eMC]; exact hm185.1, by show (a42.2.2.2.2.2 + 86) ≤ (tw_zR z).slots; rw [eMS]; exact hm185.2⟩ dL_law_598 _ dw_w1271 (tw_le hfr rfl) (tw_le hlo rfl) (Nat.le_of_ble_eq_true rfl) ?_
                refine e_iconst (z := tw_cz z (a42.2.2.2.2.1 + 21) (a42.2.2.2.2.2 + 86)) (dw_zX X) dL_law_601 (v := (4 : Int32)) (by decide) ?_
                refine e_icmp_ge (z := tw_cz z (a42.2.2.2.2.1 + 21) (a42.2.2.2.2.2 + 86)) (dw_zX X) dL_law_602 (tgt := 609) (by decide) ?_ ?_
                ·
                  exact hj184 ()
                ·
                  refine e_iconst (z := tw_cz z (a42.2.2.2.2.1 + 21) (a42.2.2.2.2.2 + 86)) (dw_zX X) dL_law_605 (v := (1 : Int32)) (by decide) ?_
                  refine e_goto (z := tw_cz z (a42.2.2.2.2.1 + 21) (a42.2.2.2.2.2 + 86)) (dw_zX X) dL_law_606 (tgt := 610) (by decide) ?_
                  exact hj165 (1 : Int32)
            refine e_icmp_ge (z := tw_cz z (a42.2.2.2.2.1 + 21) (a42.2.2.2.2.2 + 86)) (dw_zX X) dL_law_581 (tgt := 588) (by decide) ?_ ?_
            ·
              refine e_iconst (z := tw_cz z (a42.2.2.2.2.1 + 21) (a42.2.2.2.2.2 + 86)) (dw_zX X) dL_law_588 (v := (0 : Int32)) (by decide) ?_
              exact dw_Rf.sub [0, 1, 4, 5, 6, 7, 9, 10, 11, 12, 13] rfl (hj162 (0 : Int32))
            ·
              refine e_iconst (z := tw_cz z (a42.2.2.2.2.1 + 21) (a42.2.2.2.2.2 + 86)) (dw_zX X) dL_law_584 (v := (1 : Int32)) (by decide) ?_
              refine e_goto (z := tw_cz z (a42.2.2.2.2.1 + 21) (a42.2.2.2.2.2 + 86)) (dw_zX X) dL_law_585 (tgt := 589) (by decide) ?_
              exact dw_Rf.sub [0, 1, 4, 5, 6, 7, 9, 10, 11, 12, 13] rfl (hj162 (1 : Int32))
      refine e_jn (α := dw_S × Nat × Nat) (zJ := fun a186 => tw_cz z a186.2.1 a186.2.2) (YJ := fun a186 => a186.1) (pcJ := 190) (LJ := fun a186 => [(6, .ref (b + r34)), (5, .ref (b + q23)), (3, .ref (b + 0)), (0, .ref bs), (2, .int x2)]) (stJ := fun a186 => []) (fun a186 => ?_) (fun j187 hj187 => ?_)
      ·
        refine e_iconst (z := tw_cz z a186.2.1 a186.2.2) (dw_zX X) dL_law_190 (v := (0 : Int32)) (by decide) ?_
        exact hj36 ((0 : Int32), a186.1, a186.2.1, a186.2.2)
      refine e_if_eq (z := tw_cz z (a30.2.2.1 + 300) (a30.2.2.2 + 2600)) (dw_zX X) dL_law_174 (tgt := 190) (by decide) ?_ ?_
      ·
        exact dw_Rf.sub [0, 2, 4, 5, 6] rfl (hj187 (r33.2, (a30.2.2.1 + 300), (a30.2.2.2 + 2600)))
      ·
        refine e_aload_n (z := tw_cz z (a30.2.2.1 + 300) (a30.2.2.2 + 2600)) (dw_zX X) dL_law_177 rfl 4 rfl ?_
        refine e_aload (z := tw_cz z (a30.2.2.1 + 300) (a30.2.2.2 + 2600)) (dw_zX X) dL_law_178 0 rfl ?_
        refine e_callS (c := (a30.2.2.1 + 300)) (s := (a30.2.2.2 + 2600)) (As := [.ref (b + 0), .ref (b + r34)]) (z := tw_cz z (a30.2.2.1 + 300) (a30.2.2.2 + 2600)) (dw_zX X) (dw_zA hA) (dw_zb hb) (dw_zD hD) dw_z0 (dw_zM eMC eMS) dL_law_180 (fun Q h => dw_m_L_agrees hD hst h) dw_y_L_agrees dw_v_L_agrees _ dw_w1542 rfl ⟨dw_zf hfr rfl, dw_zl hlo rfl⟩ (Nat.le_of_ble_eq_true rfl) rfl (fun r188 => ?_)
        show dw_Rf (tw_cz z ((a30.2.2.1 + 300) + 1457) ((a30.2.2.2 + 2600) + 117018)) b _ r188.2 _ [(6, .ref (b + r34)), (1, .int v32), (5, .ref (b + q23)), (4, .ref (b + q21)), (3, .ref (b + 0)), (0, .ref bs), (2, .int x2)] [.int r188.1]
        refine e_if_eq (z := tw_cz z ((a30.2.2.1 + 300) + 1457) ((a30.2.2.2 + 2600) + 117018)) (dw_zX X) dL_law_183 (tgt := 190) (by decide) ?_ ?_
        ·
          exact dw_Rf.sub [0, 2, 4, 5, 6] rfl (hj187 (r188.2, ((a30.2.2.1 + 300) + 1457), ((a30.2.2.2 + 2600) + 117018)))
        ·
          refine e_iconst (z := tw_cz z ((a30.2.2.1 + 300) + 1457) ((a30.2.2.2 + 2600) + 117018)) (dw_zX X) dL_law_186 (v := (1 : Int32)) (by decide) ?_
          refine e_goto (z := tw_cz z ((a30.2.2.1 + 300) + 1457) ((a30.2.2.2 + 2600) + 117018)) (dw_zX X) dL_law_187 (tgt := 191) (by decide) ?_
          exact dw_Rf.sub [0, 2, 4, 5, 6] rfl (hj36 ((1 : Int32), r188.2, ((a30.2.2.1 + 300) + 1457), ((a30.2.2.2 + 2600) + 117018)))
  refine e_jn (α := dw_S × Nat × Nat) (zJ := fun a189 => tw_cz z a189.2.1 a189.2.2) (YJ := fun a189 => a189.1) (pcJ := 154) (LJ := fun a189 => [(5, .ref (b + q23)), (4, .ref (b + q21)), (3, .ref (b + 0)), (0, .ref bs), (2, .int x2)]) (stJ := fun a189 => []) (fun a189 => ?_) (fun j190 hj190 => ?_)
  ·
    refine e_iconst (z := tw_cz z a189.2.1 a189.2.2) (dw_zX X) dL_law_154 (v := (0 : Int32)) (by decide) ?_
    exact hj31 ((0 : Int32), a189.1, a189.2.1, a189.2.2)
  refine e_if_eq (z := tw_cz z (((((c0 + 1) + 1) + 1) + 6) + 1457) (((((s0 + (Int32.toNatClampNeg (8 : Int32))) + 1) + 13) + 19) + 117018)) (dw_zX X) dL_law_56 (tgt := 154) (by decide) ?_ ?_
  ·
    exact dw_Rf.sub [0, 1, 2, 3, 5] rfl (hj190 (r29.2, (((((c0 + 1) + 1) + 1) + 6) + 1457), (((((s0 + (Int32.toNatClampNeg (8 : Int32))) + 1) + 13) + 19) + 117018)))
  ·
    refine e_aload_n (z := tw_cz z (((((c0 + 1) + 1) + 1) + 6) + 1457) (((((s0 + (Int32.toNatClampNeg (8 : Int32))) + 1) + 13) + 19) + 117018)) (dw_zX X) dL_law_59 rfl 2 rfl ?_
    refine e_cls (e := tw_P_X11_errorOffset (dw_s r29.2)) (rv := fun r => some (.int r)) (σ' := fun r => (dw_s r29.2)) (As := []) (z := tw_cz z (((((c0 + 1) + 1) + 1) + 6) + 1457) (((((s0 + (Int32.toNatClampNeg (8 : Int32))) + 1) + 13) + 19) + 117018)) (dw_zX X) (dw_zb hb) ⟨rfl, rfl⟩ ⟨eMC, eMS⟩ dL_law_60 (fun r h => tw_m_X11_errorOffset h) tw_y_X11_errorOffset tw_v_X11_errorOffset _ dw_w453 rfl ⟨rfl, rfl, tw_le hfr rfl, tw_le hlo rfl⟩ (Nat.le_of_ble_eq_true rfl) rfl (fun r191 => ?_)
    show dw_Rf (tw_cz z (((((c0 + 1) + 1) + 1) + 6) + 1457) (((((s0 + (Int32.toNatClampNeg (8 : Int32))) + 1) + 13) + 19) + 117018)) b _ (dw_cs r29.2 (dw_s r29.2)) _ [(5, .ref (b + q23)), (4, .ref (b + q21)), (3, .ref (b + 0)), (0, .ref bs), (1, .int x1), (2, .int x2)] [.int r191]
    refine e_iconst (z := tw_cz z (((((c0 + 1) + 1) + 1) + 6) + 1457) (((((s0 + (Int32.toNatClampNeg (8 : Int32))) + 1) + 13) + 19) + 117018)) (dw_zX X) dL_law_63 (v := (-1 : Int32)) (by decide) ?_
    refine e_icmp_ne (z := tw_cz z (((((c0 + 1) + 1) + 1) + 6) + 1457) (((((s0 + (Int32.toNatClampNeg (8 : Int32))) + 1) + 13) + 19) + 117018)) (dw_zX X) dL_law_64 (tgt := 154) (by decide) ?_ ?_
    ·
      exact dw_Rf.sub [0, 1, 2, 3, 5] rfl (hj190 ((dw_cs r29.2 (dw_s r29.2)), (((((c0 + 1) + 1) + 1) + 6) + 1457), (((((s0 + (Int32.toNatClampNeg (8 : Int32))) + 1) + 13) + 19) + 117018)))
    ·
      refine e_aload_n (z := tw_cz z (((((c0 + 1) + 1) + 1) + 6) + 1457) (((((s0 + (Int32.toNatClampNeg (8 : Int32))) + 1) + 13) + 19) + 117018)) (dw_zX X) dL_law_67 rfl 2 rfl ?_
      refine e_cls (e := tw_P_X11_undo n (dw_s (dw_cs r29.2 (dw_s r29.2)))) (rv := fun r => some (.int r.1)) (σ' := fun r => r.2) (As := []) (z := tw_cz z (((((c0 + 1) + 1) + 1) + 6) + 1457) (((((s0 + (Int32.toNatClampNeg (8 : Int32))) + 1) + 13) + 19) + 117018)) (dw_zX X) (dw_zb hb) ⟨rfl, rfl⟩ ⟨eMC, eMS⟩ dL_law_68 (fun r h => tw_m_X11_undo h) tw_y_X11_undo tw_v_X11_undo _ dw_w500 rfl ⟨rfl, rfl, tw_le hfr rfl, tw_le hlo rfl⟩ (Nat.le_of_ble_eq_true rfl) rfl (fun r192 => ?_)
      show dw_Rf (tw_cz z (((((c0 + 1) + 1) + 1) + 6) + 1457) (((((s0 + (Int32.toNatClampNeg (8 : Int32))) + 1) + 13) + 19) + 117018)) b _ (dw_cs (dw_cs r29.2 (dw_s r29.2)) r192.2) _ [(5, .ref (b + q23)), (4, .ref (b + q21)), (3, .ref (b + 0)), (0, .ref bs), (1, .int x1), (2, .int x2)] [.int r192.1]
      refine e_iconst (z := tw_cz z (((((c0 + 1) + 1) + 1) + 6) + 1457) (((((s0 + (Int32.toNatClampNeg (8 : Int32))) + 1) + 13) + 19) + 117018)) (dw_zX X) dL_law_71 (v := (-1 : Int32)) (by decide) ?_
      refine e_icmp_ne (z := tw_cz z (((((c0 + 1) + 1) + 1) + 6) + 1457) (((((s0 + (Int32.toNatClampNeg (8 : Int32))) + 1) + 13) + 19) + 117018)) (dw_zX X) dL_law_72 (tgt := 154) (by decide) ?_ ?_
      ·
        exact dw_Rf.sub [0, 1, 2, 3, 5] rfl (hj190 ((dw_cs (dw_cs r29.2 (dw_s r29.2)) r192.2), (((((c0 + 1) + 1) + 1) + 6) + 1457), (((((s0 + (Int32.toNatClampNeg (8 : Int32))) + 1) + 13) + 19) + 117018)))
      ·
        refine e_aload_n (z := tw_cz z (((((c0 + 1) + 1) + 1) + 6) + 1457) (((((s0 + (Int32.toNatClampNeg (8 : Int32))) + 1) + 13) + 19) + 117018)) (dw_zX X) dL_law_75 rfl 2 rfl ?_
        refine e_iconst (z := tw_cz z (((((c0 + 1) + 1) + 1) + 6) + 1457) (((((s0 + (Int32.toNatClampNeg (8 : Int32))) + 1) + 13) + 19) + 117018)) (dw_zX X) dL_law_76 (v := (0 : Int32)) (by decide) ?_
        refine e_iconst (z := tw_cz z (((((c0 + 1) + 1) + 1) + 6) + 1457) (((((s0 + (Int32.toNatClampNeg (8 : Int32))) + 1) + 13) + 19) + 117018)) (dw_zX X) dL_law_77 (v := (0 : Int32)) (by decide) ?_
        refine e_callW (c := (((((c0 + 1) + 1) + 1) + 6) + 1457)) (s := (((((s0 + (Int32.toNatClampNeg (8 : Int32))) + 1) + 13) + 19) + 117018)) (As := [.ref (b + 0), .int (0 : Int32), .int (0 : Int32)]) (z := tw_cz z (((((c0 + 1) + 1) + 1) + 6) + 1457) (((((s0 + (Int32.toNatClampNeg (8 : Int32))) + 1) + 13) + 19) + 117018)) (dw_zX X) (dw_zA hA) (dw_zb hb) (dw_zD hD) dw_z0 (dw_zM eMC eMS) dL_law_78 (fun Q h => dw_m_L_turn hD hst h) dw_y_L_turn _ dw_w1226 rfl ⟨dw_zf hfr rfl, dw_zl hlo rfl⟩ (Nat.le_of_ble_eq_true rfl) rfl (fun r193 => ?_)
        show dw_Rf (tw_cz z ((((((c0 + 1) + 1) + 1) + 6) + 1457) + 1) ((((((s0 + (Int32.toNatClampNeg (8 : Int32))) + 1) + 13) + 19) + 117018) + 6)) b _ r193.2 _ [(5, .ref (b + q23)), (4, .ref (b + q21)), (3, .ref (b + 0)), (0, .ref bs), (1, .int x1), (2, .int x2)] [.int r193.1]
        refine e_ldcI (z := tw_cz z ((((((c0 + 1) + 1) + 1) + 6) + 1457) + 1) ((((((s0 + (Int32.toNatClampNeg (8 : Int32))) + 1) + 13) + 19) + 117018) + 6)) (dw_zX X) dL_law_81 (v := (-2000000097 : Int32)) _ dw_w1070 ?_
        refine e_icmp_ne (z := tw_cz z ((((((c0 + 1) + 1) + 1) + 6) + 1457) + 1) ((((((s0 + (Int32.toNatClampNeg (8 : Int32))) + 1) + 13) + 19) + 117018) + 6)) (dw_zX X) dL_law_83 (tgt := 154) (by decide) ?_ ?_
        ·
          exact dw_Rf.sub [0, 1, 2, 3, 5] rfl (hj190 (r193.2, ((((((c0 + 1) + 1) + 1) + 6) + 1457) + 1), ((((((s0 + (Int32.toNatClampNeg (8 : Int32))) + 1) + 13) + 19) + 117018) + 6)))
        ·
          refine e_aload_n (z := tw_cz z ((((((c0 + 1) + 1) + 1) + 6) + 1457) + 1) ((((((s0 + (Int32.toNatClampNeg (8 : Int32))) + 1) + 13) + 19) + 117018) + 6)) (dw_zX X) dL_law_86 rfl 2 rfl ?_
          refine e_iconst (z := tw_cz z ((((((c0 + 1) + 1) + 1) + 6) + 1457) + 1) ((((((s0 + (Int32.toNatClampNeg (8 : Int32))) + 1) + 13) + 19) + 117018) + 6)) (dw_zX X) dL_law_87 (v := (0 : Int32)) (by decide) ?_
          refine e_iconst (z := tw_cz z ((((((c0 + 1) + 1) + 1) + 6) + 1457) + 1) ((((((s0 + (Int32.toNatClampNeg (8 : Int32))) + 1) + 13) + 19) + 117018) + 6)) (dw_zX X) dL_law_88 (v := (1 : Int32)) (by decide) ?_
          refine e_callW (c := ((((((c0 + 1) + 1) + 1) + 6) + 1457) + 1)) (s := ((((((s0 + (Int32.toNatClampNeg (8 : Int32))) + 1) + 13) + 19) + 117018) + 6)) (As := [.ref (b + 0), .int (0 : Int32), .int (1 : Int32)]) (z := tw_cz z ((((((c0 + 1) + 1) + 1) + 6) + 1457) + 1) ((((((s0 + (Int32.toNatClampNeg (8 : Int32))) + 1) + 13) + 19) + 117018) + 6)) (dw_zX X) (dw_zA hA) (dw_zb hb) (dw_zD hD) dw_z0 (dw_zM eMC eMS) dL_law_89 (fun Q h => dw_m_L_use hD hst h) dw_y_L_use _ dw_w1207 rfl ⟨dw_zf hfr rfl, dw_zl hlo rfl⟩ (Nat.le_of_ble_eq_true rfl) rfl (fun r194 => ?_)
          show dw_Rf (tw_cz z (((((((c0 + 1) + 1) + 1) + 6) + 1457) + 1) + 1) (((((((s0 + (Int32.toNatClampNeg (8 : Int32))) + 1) + 13) + 19) + 117018) + 6) + 6)) b _ r194.2 _ [(5, .ref (b + q23)), (4, .ref (b + q21)), (3, .ref (b + 0)), (0, .ref bs), (1, .int x1), (2, .int x2)] [.int r194.1]
          refine e_ldcI (z := tw_cz z (((((((c0 + 1) + 1) + 1) + 6) + 1457) + 1) + 1) (((((((s0 + (Int32.toNatClampNeg (8 : Int32))) + 1) + 13) + 19) + 117018) + 6) + 6)) (dw_zX X) dL_law_92 (v := (-2000000097 : Int32)) _ dw_w1070 ?_
          refine e_icmp_ne (z := tw_cz z (((((((c0 + 1) + 1) + 1) + 6) + 1457) + 1) + 1) (((((((s0 + (Int32.toNatClampNeg (8 : Int32))) + 1) + 13) + 19) + 117018) + 6) + 6)) (dw_zX X) dL_law_94 (tgt := 154) (by decide) ?_ ?_
          ·
            exact dw_Rf.sub [0, 1, 2, 3, 5] rfl (hj190 (r194.2, (((((((c0 + 1) + 1) + 1) + 6) + 1457) + 1) + 1), (((((((s0 + (Int32.toNatClampNeg (8 : Int32))) + 1) + 13) + 19) + 117018) + 6) + 6)))
          ·
            refine e_aload_n (z := tw_cz z (((((((c0 + 1) + 1) + 1) + 6) + 1457) + 1) + 1) (((((((s0 + (Int32.toNatClampNeg (8 : Int32))) + 1) + 13) + 19) + 117018) + 6) + 6)) (dw_zX X) dL_law_97 rfl 2 rfl ?_
            refine e_sipush (z := tw_cz z (((((((c0 + 1) + 1) + 1) + 6) + 1457) + 1) + 1) (((((((s0 + (Int32.toNatClampNeg (8 : Int32))) + 1) + 13) + 19) + 117018) + 6) + 6)) (dw_zX X) dL_law_98 (v := (10000 : Int32)) (by decide) ?_
            refine e_callW (c := (((((((c0 + 1) + 1) + 1) + 6) + 1457) + 1) + 1)) (s := (((((((s0 + (Int32.toNatClampNeg (8 : Int32))) + 1) + 13) + 19) + 117018) + 6) + 6)) (As := [.ref (b + 0), .int (10000 : Int32)]) (z := tw_cz z (((((((c0 + 1) + 1) + 1) + 6) + 1457) + 1) + 1) (((((((s0 + (Int32.toNatClampNeg (8 : Int32))) + 1) + 13) + 19) + 117018) + 6) + 6)) (dw_zX X) (dw_zA hA) (dw_zb hb) (dw_zD hD) dw_z0 (dw_zM eMC eMS) dL_law_101 (fun Q h => dw_m_L_hide hD hst h) dw_y_L_hide _ dw_w1217 rfl ⟨dw_zf hfr rfl, dw_zl hlo rfl⟩ (Nat.le_of_ble_eq_true rfl) rfl (fun r195 => ?_)
            show dw_Rf (tw_cz z ((((((((c0 + 1) + 1) + 1) + 6) + 1457) + 1) + 1) + 1) ((((((((s0 + (Int32.toNatClampNeg (8 : Int32))) + 1) + 13) + 19) + 117018) + 6) + 6) + 6)) b _ r195.2 _ [(5, .ref (b + q23)), (4, .ref (b + q21)), (3, .ref (b + 0)), (0, .ref bs), (1, .int x1), (2, .int x2)] [.int r195.1]
            refine e_ldcI (z := tw_cz z ((((((((c0 + 1) + 1) + 1) + 6) + 1457) + 1) + 1) + 1) ((((((((s0 + (Int32.toNatClampNeg (8 : Int32))) + 1) + 13) + 19) + 117018) + 6) + 6) + 6)) (dw_zX X) dL_law_104 (v := (-2000000098 : Int32)) _ dw_w1033 ?_
            refine e_icmp_ne (z := tw_cz z ((((((((c0 + 1) + 1) + 1) + 6) + 1457) + 1) + 1) + 1) ((((((((s0 + (Int32.toNatClampNeg (8 : Int32))) + 1) + 13) + 19) + 117018) + 6) + 6) + 6)) (dw_zX X) dL_law_106 (tgt := 154) (by decide) ?_ ?_
            ·
              exact dw_Rf.sub [0, 1, 2, 3, 5] rfl (hj190 (r195.2, ((((((((c0 + 1) + 1) + 1) + 6) + 1457) + 1) + 1) + 1), ((((((((s0 + (Int32.toNatClampNeg (8 : Int32))) + 1) + 13) + 19) + 117018) + 6) + 6) + 6)))
            ·
              refine e_aload_n (z := tw_cz z ((((((((c0 + 1) + 1) + 1) + 6) + 1457) + 1) + 1) + 1) ((((((((s0 + (Int32.toNatClampNeg (8 : Int32))) + 1) + 13) + 19) + 117018) + 6) + 6) + 6)) (dw_zX X) dL_law_109 rfl 2 rfl ?_
              refine e_iconst (z := tw_cz z ((((((((c0 + 1) + 1) + 1) + 6) + 1457) + 1) + 1) + 1) ((((((((s0 + (Int32.toNatClampNeg (8 : Int32))) + 1) + 13) + 19) + 117018) + 6) + 6) + 6)) (dw_zX X) dL_law_110 (v := (0 : Int32)) (by decide) ?_
              refine e_iconst (z := tw_cz z ((((((((c0 + 1) + 1) + 1) + 6) + 1457) + 1) + 1) + 1) ((((((((s0 + (Int32.toNatClampNeg (8 : Int32))) + 1) + 13) + 19) + 117018) + 6) + 6) + 6)) (dw_zX X) dL_law_111 (v := (1 : Int32)) (by decide) ?_
              refine e_callW (c := ((((((((c0 + 1) + 1) + 1) + 6) + 1457) + 1) + 1) + 1)) (s := ((((((((s0 + (Int32.toNatClampNeg (8 : Int32))) + 1) + 13) + 19) + 117018) + 6) + 6) + 6)) (As := [.ref (b + 0), .int (0 : Int32), .int (1 : Int32)]) (z := tw_cz z ((((((((c0 + 1) + 1) + 1) + 6) + 1457) + 1) + 1) + 1) ((((((((s0 + (Int32.toNatClampNeg (8 : Int32))) + 1) + 13) + 19) + 117018) + 6) + 6) + 6)) (dw_zX X) (dw_zA hA) (dw_zb hb) (dw_zD hD) dw_z0 (dw_zM eMC eMS) dL_law_112 (fun Q h => dw_m_L_moveTo hD hst h) dw_y_L_moveTo _ dw_w1200 rfl ⟨dw_zf hfr rfl, dw_zl hlo rfl⟩ (Nat.le_of_ble_eq_true rfl) rfl (fun r196 => ?_)
              show dw_Rf (tw_cz z (((((((((c0 + 1) + 1) + 1) + 6) + 1457) + 1) + 1) + 1) + 1) (((((((((s0 + (Int32.toNatClampNeg (8 : Int32))) + 1) + 13) + 19) + 117018) + 6) + 6) + 6) + 6)) b _ r196.2 _ [(5, .ref (b + q23)), (4, .ref (b + q21)), (3, .ref (b + 0)), (0, .ref bs), (1, .int x1), (2, .int x2)] [.int r196.1]
              refine e_ldcI (z := tw_cz z (((((((((c0 + 1) + 1) + 1) + 6) + 1457) + 1) + 1) + 1) + 1) (((((((((s0 + (Int32.toNatClampNeg (8 : Int32))) + 1) + 13) + 19) + 117018) + 6) + 6) + 6) + 6)) (dw_zX X) dL_law_115 (v := (-2000000097 : Int32)) _ dw_w1070 ?_
              refine e_icmp_ne (z := tw_cz z (((((((((c0 + 1) + 1) + 1) + 6) + 1457) + 1) + 1) + 1) + 1) (((((((((s0 + (Int32.toNatClampNeg (8 : Int32))) + 1) + 13) + 19) + 117018) + 6) + 6) + 6) + 6)) (dw_zX X) dL_law_117 (tgt := 154) (by decide) ?_ ?_
              ·
                exact dw_Rf.sub [0, 1, 2, 3, 5] rfl (hj190 (r196.2, (((((((((c0 + 1) + 1) + 1) + 6) + 1457) + 1) + 1) + 1) + 1), (((((((((s0 + (Int32.toNatClampNeg (8 : Int32))) + 1) + 13) + 19) + 117018) + 6) + 6) + 6) + 6)))
              ·
                refine e_aload_n (z := tw_cz z (((((((((c0 + 1) + 1) + 1) + 6) + 1457) + 1) + 1) + 1) + 1) (((((((((s0 + (Int32.toNatClampNeg (8 : Int32))) + 1) + 13) + 19) + 117018) + 6) + 6) + 6) + 6)) (dw_zX X) dL_law_120 rfl 2 rfl ?_
                refine e_cls (e := tw_P_X11_dig (dw_s r196.2)) (rv := fun r => some (.int r.1)) (σ' := fun r => r.2) (As := []) (z := tw_cz z (((((((((c0 + 1) + 1) + 1) + 6) + 1457) + 1) + 1) + 1) + 1) (((((((((s0 + (Int32.toNatClampNeg (8 : Int32))) + 1) + 13) + 19) + 117018) + 6) + 6) + 6) + 6)) (dw_zX X) (dw_zb hb) ⟨rfl, rfl⟩ ⟨eMC, eMS⟩ dL_law_121 (fun r h => tw_m_X11_dig h) tw_y_X11_dig tw_v_X11_dig _ dw_w457 rfl ⟨rfl, rfl, tw_le hfr rfl, tw_le hlo rfl⟩ (Nat.le_of_ble_eq_true rfl) rfl (fun r197 => ?_)
                show dw_Rf (tw_cz z (((((((((c0 + 1) + 1) + 1) + 6) + 1457) + 1) + 1) + 1) + 1) (((((((((s0 + (Int32.toNatClampNeg (8 : Int32))) + 1) + 13) + 19) + 117018) + 6) + 6) + 6) + 6)) b _ (dw_cs r196.2 r197.2) _ [(5, .ref (b + q23)), (4, .ref (b + q21)), (3, .ref (b + 0)), (0, .ref bs), (1, .int x1), (2, .int x2)] [.int r197.1]
                refine e_iconst (z := tw_cz z (((((((((c0 + 1) + 1) + 1) + 6) + 1457) + 1) + 1) + 1) + 1) (((((((((s0 + (Int32.toNatClampNeg (8 : Int32))) + 1) + 13) + 19) + 117018) + 6) + 6) + 6) + 6)) (dw_zX X) dL_law_124 (v := (1 : Int32)) (by decide) ?_
                refine e_icmp_ne (z := tw_cz z (((((((((c0 + 1) + 1) + 1) + 6) + 1457) + 1) + 1) + 1) + 1) (((((((((s0 + (Int32.toNatClampNeg (8 : Int32))) + 1) + 13) + 19) + 117018) + 6) + 6) + 6) + 6)) (dw_zX X) dL_law_125 (tgt := 154) (by decide) ?_ ?_
                ·
                  exact dw_Rf.sub [0, 1, 2, 3, 5] rfl (hj190 ((dw_cs r196.2 r197.2), (((((((((c0 + 1) + 1) + 1) + 6) + 1457) + 1) + 1) + 1) + 1), (((((((((s0 + (Int32.toNatClampNeg (8 : Int32))) + 1) + 13) + 19) + 117018) + 6) + 6) + 6) + 6)))
                ·
                  refine e_aload_n (z := tw_cz z (((((((((c0 + 1) + 1) + 1) + 6) + 1457) + 1) + 1) + 1) + 1) (((((((((s0 + (Int32.toNatClampNeg (8 : Int32))) + 1) + 13) + 19) + 117018) + 6) + 6) + 6) + 6)) (dw_zX X) dL_law_128 rfl 2 rfl ?_
                  refine e_cls (e := tw_P_X11_dig (dw_s (dw_cs r196.2 r197.2))) (rv := fun r => some (.int r.1)) (σ' := fun r => r.2) (As := []) (z := tw_cz z (((((((((c0 + 1) + 1) + 1) + 6) + 1457) + 1) + 1) + 1) + 1) (((((((((s0 + (Int32.toNatClampNeg (8 : Int32))) + 1) + 13) + 19) + 117018) + 6) + 6) + 6) + 6)) (dw_zX X) (dw_zb hb) ⟨rfl, rfl⟩ ⟨eMC, eMS⟩ dL_law_129 (fun r h => tw_m_X11_dig h) tw_y_X11_dig tw_v_X11_dig _ dw_w457 rfl ⟨rfl, rfl, tw_le hfr rfl, tw_le hlo rfl⟩ (Nat.le_of_ble_eq_true rfl) rfl (fun r198 => ?_)
                  show dw_Rf (tw_cz z (((((((((c0 + 1) + 1) + 1) + 6) + 1457) + 1) + 1) + 1) + 1) (((((((((s0 + (Int32.toNatClampNeg (8 : Int32))) + 1) + 13) + 19) + 117018) + 6) + 6) + 6) + 6)) b _ (dw_cs (dw_cs r196.2 r197.2) r198.2) _ [(5, .ref (b + q23)), (4, .ref (b + q21)), (3, .ref (b + 0)), (0, .ref bs), (1, .int x1), (2, .int x2)] [.int r198.1]
                  refine e_if_ne (z := tw_cz z (((((((((c0 + 1) + 1) + 1) + 6) + 1457) + 1) + 1) + 1) + 1) (((((((((s0 + (Int32.toNatClampNeg (8 : Int32))) + 1) + 13) + 19) + 117018) + 6) + 6) + 6) + 6)) (dw_zX X) dL_law_132 (tgt := 154) (by decide) ?_ ?_
                  ·
                    exact dw_Rf.sub [0, 1, 2, 3, 5] rfl (hj190 ((dw_cs (dw_cs r196.2 r197.2) r198.2), (((((((((c0 + 1) + 1) + 1) + 6) + 1457) + 1) + 1) + 1) + 1), (((((((((s0 + (Int32.toNatClampNeg (8 : Int32))) + 1) + 13) + 19) + 117018) + 6) + 6) + 6) + 6)))
                  ·
                    refine e_aload_n (z := tw_cz z (((((((((c0 + 1) + 1) + 1) + 6) + 1457) + 1) + 1) + 1) + 1) (((((((((s0 + (Int32.toNatClampNeg (8 : Int32))) + 1) + 13) + 19) + 117018) + 6) + 6) + 6) + 6)) (dw_zX X) dL_law_135 rfl 2 rfl ?_
                    refine e_cls (e := tw_P_X11_undo n (dw_s (dw_cs (dw_cs r196.2 r197.2) r198.2))) (rv := fun r => some (.int r.1)) (σ' := fun r => r.2) (As := []) (z := tw_cz z (((((((((c0 + 1) + 1) + 1) + 6) + 1457) + 1) + 1) + 1) + 1) (((((((((s0 + (Int32.toNatClampNeg (8 : Int32))) + 1) + 13) + 19) + 117018) + 6) + 6) + 6) + 6)) (dw_zX X) (dw_zb hb) ⟨rfl, rfl⟩ ⟨eMC, eMS⟩ dL_law_136 (fun r h => tw_m_X11_undo h) tw_y_X11_undo tw_v_X11_undo _ dw_w500 rfl ⟨rfl, rfl, tw_le hfr rfl, tw_le hlo rfl⟩ (Nat.le_of_ble_eq_true rfl) rfl (fun r199 => ?_)
                    show dw_Rf (tw_cz z (((((((((c0 + 1) + 1) + 1) + 6) + 1457) + 1) + 1) + 1) + 1) (((((((((s0 + (Int32.toNatClampNeg (8 : Int32))) + 1) + 13) + 19) + 117018) + 6) + 6) + 6) + 6)) b _ (dw_cs (dw_cs (dw_cs r196.2 r197.2) r198.2) r199.2) _ [(5, .ref (b + q23)), (4, .ref (b + q21)), (3, .ref (b + 0)), (0, .ref bs), (1, .int x1), (2, .int x2)] [.int r199.1]
                    refine e_iconst (z := tw_cz z (((((((((c0 + 1) + 1) + 1) + 6) + 1457) + 1) + 1) + 1) + 1) (((((((((s0 + (Int32.toNatClampNeg (8 : Int32))) + 1) + 13) + 19) + 117018) + 6) + 6) + 6) + 6)) (dw_zX X) dL_law_139 (v := (1 : Int32)) (by decide) ?_
                    refine e_icmp_ne (z := tw_cz z (((((((((c0 + 1) + 1) + 1) + 6) + 1457) + 1) + 1) + 1) + 1) (((((((((s0 + (Int32.toNatClampNeg (8 : Int32))) + 1) + 13) + 19) + 117018) + 6) + 6) + 6) + 6)) (dw_zX X) dL_law_140 (tgt := 154) (by decide) ?_ ?_
                    ·
                      exact dw_Rf.sub [0, 1, 2, 3, 5] rfl (hj190 ((dw_cs (dw_cs (dw_cs r196.2 r197.2) r198.2) r199.2), (((((((((c0 + 1) + 1) + 1) + 6) + 1457) + 1) + 1) + 1) + 1), (((((((((s0 + (Int32.toNatClampNeg (8 : Int32))) + 1) + 13) + 19) + 117018) + 6) + 6) + 6) + 6)))
                    ·
                      refine e_aload_n (z := tw_cz z (((((((((c0 + 1) + 1) + 1) + 6) + 1457) + 1) + 1) + 1) + 1) (((((((((s0 + (Int32.toNatClampNeg (8 : Int32))) + 1) + 13) + 19) + 117018) + 6) + 6) + 6) + 6)) (dw_zX X) dL_law_143 rfl 2 rfl ?_
                      refine e_cls (e := tw_P_X11_undo n (dw_s (dw_cs (dw_cs (dw_cs r196.2 r197.2) r198.2) r199.2))) (rv := fun r => some (.int r.1)) (σ' := fun r => r.2) (As := []) (z := tw_cz z (((((((((c0 + 1) + 1) + 1) + 6) + 1457) + 1) + 1) + 1) + 1) (((((((((s0 + (Int32.toNatClampNeg (8 : Int32))) + 1) + 13) + 19) + 117018) + 6) + 6) + 6) + 6)) (dw_zX X) (dw_zb hb) ⟨rfl, rfl⟩ ⟨eMC, eMS⟩ dL_law_144 (fun r h => tw_m_X11_undo h) tw_y_X11_undo tw_v_X11_undo _ dw_w500 rfl ⟨rfl, rfl, tw_le hfr rfl, tw_le hlo rfl⟩ (Nat.le_of_ble_eq_true rfl) rfl (fun r200 => ?_)
                      show dw_Rf (tw_cz z (((((((((c0 + 1) + 1) + 1) + 6) + 1457) + 1) + 1) + 1) + 1) (((((((((s0 + (Int32.toNatClampNeg (8 : Int32))) + 1) + 13) + 19) + 117018) + 6) + 6) + 6) + 6)) b _ (dw_cs (dw_cs (dw_cs (dw_cs r196.2 r197.2) r198.2) r199.2) r200.2) _ [(5, .ref (b + q23)), (4, .ref (b + q21)), (3, .ref (b + 0)), (0, .ref bs), (1, .int x1), (2, .int x2)] [.int r200.1]
                      refine e_if_ne (z := tw_cz z (((((((((c0 + 1) + 1) + 1) + 6) + 1457) + 1) + 1) + 1) + 1) (((((((((s0 + (Int32.toNatClampNeg (8 : Int32))) + 1) + 13) + 19) + 117018) + 6) + 6) + 6) + 6)) (dw_zX X) dL_law_147 (tgt := 154) (by decide) ?_ ?_
                      ·
                        exact dw_Rf.sub [0, 1, 2, 3, 5] rfl (hj190 ((dw_cs (dw_cs (dw_cs (dw_cs r196.2 r197.2) r198.2) r199.2) r200.2), (((((((((c0 + 1) + 1) + 1) + 6) + 1457) + 1) + 1) + 1) + 1), (((((((((s0 + (Int32.toNatClampNeg (8 : Int32))) + 1) + 13) + 19) + 117018) + 6) + 6) + 6) + 6)))
                      ·
                        refine e_iconst (z := tw_cz z (((((((((c0 + 1) + 1) + 1) + 6) + 1457) + 1) + 1) + 1) + 1) (((((((((s0 + (Int32.toNatClampNeg (8 : Int32))) + 1) + 13) + 19) + 117018) + 6) + 6) + 6) + 6)) (dw_zX X) dL_law_150 (v := (1 : Int32)) (by decide) ?_
                        refine e_goto (z := tw_cz z (((((((((c0 + 1) + 1) + 1) + 6) + 1457) + 1) + 1) + 1) + 1) (((((((((s0 + (Int32.toNatClampNeg (8 : Int32))) + 1) + 13) + 19) + 117018) + 6) + 6) + 6) + 6)) (dw_zX X) dL_law_151 (tgt := 155) (by decide) ?_
                        exact dw_Rf.sub [0, 1, 2, 3, 5] rfl (hj31 ((1 : Int32), (dw_cs (dw_cs (dw_cs (dw_cs r196.2 r197.2) r198.2) r199.2) r200.2), (((((((((c0 + 1) + 1) + 1) + 6) + 1457) + 1) + 1) + 1) + 1), (((((((((s0 + (Int32.toNatClampNeg (8 : Int32))) + 1) + 13) + 19) + 117018) + 6) + 6) + 6) + 6)))
