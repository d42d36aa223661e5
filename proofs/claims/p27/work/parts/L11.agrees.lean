theorem dw_w609 : lw_tbl[609]? = some ((Jvm.Cond.fieldLink "TreasureWalkLaw" (258 : Nat) "TreasureWalkLaw$Island" "chest" "I")) := by decide +kernel
theorem dw_w611 : lw_tbl[611]? = some ((Jvm.Cond.fieldLink "TreasureWalkLaw" (265 : Nat) "TreasureWalkLaw$Island" "chestCell" "I")) := by decide +kernel
theorem dw_w682 : lw_tbl[682]? = some ((Jvm.Cond.methodLink "TreasureWalkLaw" (261 : Nat) ({ cls := "TreasureWalkLaw$Island", name := "left", desc := "()[Z" } : Jvm.MethodName))) := by decide +kernel
theorem dw_w1033 : lw_tbl[1033]? = some ((Jvm.Cond.constant "TreasureWalkLaw" (42 : Nat) (-2000000098 : Int32))) := by decide +kernel
theorem dw_w1070 : lw_tbl[1070]? = some ((Jvm.Cond.constant "TreasureWalkLaw" (52 : Nat) (-2000000097 : Int32))) := by decide +kernel
theorem dw_w1543 : lw_tbl[1543]? = some ((Jvm.Cond.static ({ cls := "TreasureWalkLaw", name := "agrees", desc := "(LTreasureWalk;LTreasureWalkLaw$Island;)Z" } : Jvm.MethodName))) := by decide +kernel
set_option maxRecDepth 100000 in
theorem dw_w1544 : lw_tbl[1544]? = some ((Jvm.Cond.code ({ cls := "TreasureWalkLaw", name := "agrees", desc := "(LTreasureWalk;LTreasureWalkLaw$Island;)Z" } : Jvm.MethodName) method_26_code (5 : Nat) (Option.some Jvm.ClassFile.FieldType.boolean))) := rfl
theorem dw_w1545 : lw_tbl[1545]? = some ((Jvm.Cond.methodLink "TreasureWalkLaw" (233 : Nat) ({ cls := "TreasureWalk", name := "checksum", desc := "()J" } : Jvm.MethodName))) := by decide +kernel
theorem dw_w1581 : lw_tbl[1581]? = some ((Jvm.Cond.methodLink "TreasureWalkLaw" (237 : Nat) ({ cls := "TreasureWalkLaw$Island", name := "checksum", desc := "()J" } : Jvm.MethodName))) := by decide +kernel
theorem dw_w1595 : lw_tbl[1595]? = some ((Jvm.Cond.methodLink "TreasureWalkLaw" (238 : Nat) ({ cls := "TreasureWalkLaw", name := "state", desc := "(LTreasureWalk;I)I" } : Jvm.MethodName))) := by decide +kernel
theorem dw_w1599 : lw_tbl[1599]? = some ((Jvm.Cond.methodLink "TreasureWalkLaw" (240 : Nat) ({ cls := "TreasureWalkLaw", name := "cell", desc := "(LTreasureWalk;II)I" } : Jvm.MethodName))) := by decide +kernel
theorem dw_w1603 : lw_tbl[1603]? = some ((Jvm.Cond.methodLink "TreasureWalkLaw" (243 : Nat) ({ cls := "TreasureWalkLaw", name := "reached", desc := "(LTreasureWalk;II)I" } : Jvm.MethodName))) := by decide +kernel
theorem dw_w1607 : lw_tbl[1607]? = some ((Jvm.Cond.methodLink "TreasureWalkLaw" (245 : Nat) ({ cls := "TreasureWalkLaw$Island", name := "told", desc := "(I)I" } : Jvm.MethodName))) := by decide +kernel
theorem dw_w1608 : lw_tbl[1608]? = some ((Jvm.Cond.methodLink "TreasureWalkLaw" (248 : Nat) ({ cls := "TreasureWalkLaw$Island", name := "reasons", desc := "()[I" } : Jvm.MethodName))) := by decide +kernel
theorem dw_w1609 : lw_tbl[1609]? = some ((Jvm.Cond.methodLink "TreasureWalkLaw" (252 : Nat) ({ cls := "TreasureWalkLaw", name := "why", desc := "(LTreasureWalk;II)I" } : Jvm.MethodName))) := by decide +kernel
theorem dw_w1620 : lw_tbl[1620]? = some ((Jvm.Cond.methodLink "TreasureWalkLaw" (254 : Nat) ({ cls := "TreasureWalk", name := "chestIsLeft", desc := "()Z" } : Jvm.MethodName))) := by decide +kernel
def dw_P_L_agrees (n : Nat) (r1 : Nat) (Y : dw_S) (Q : Int32 × dw_S → Prop) : Prop :=
pw_bd (tw_P_X11_checksum n (dw_s Y)) (fun r21 =>
pw_ck (dw_is (dw_cs Y r21.2) r1 13) (
dw_P_X13_checksum n r1 (dw_cs Y r21.2) (fun (r22 : Int64 × dw_S) =>
tw_jn (fun (a23 : Int32 × dw_S × Nat × Nat) =>
pw_lt a23.1 (fun (v25 : Int32) =>
pw_lt (0 : Int32) (fun (v26 : Int32) =>
pw_lp (fun (k28 : (Int32 × Int32 × dw_S × Nat × Nat) → Prop) (a27 : Int32 × Int32 × dw_S × Nat × Nat) =>
tw_jn (fun (a29 : Unit) =>
pw_ck (dw_is a27.2.2.1 r1 13 ∧ (a27.2.2.2.1 + 94) ≤ 1457 ∧ (a27.2.2.2.2 + 8544) ≤ 117018) (
dw_P_X13_reasons n r1 a27.2.2.1 (fun (r31 : Nat × dw_S) =>
pw_lt (0 : Int32) (fun (v32 : Int32) =>
pw_lp (fun (k34 : (Int32 × Int32 × dw_S × Nat × Nat) → Prop) (a33 : Int32 × Int32 × dw_S × Nat × Nat) =>
pw_ck (dw_is a33.2.2.1 r31.1 20) (
tw_jn (fun (a35 : Unit) =>
tw_jn (fun (a37 : Int32 × dw_S × Nat × Nat) =>
pw_ck ((a37.2.2.1 ≤ 1457 ∧ a37.2.2.2 ≤ 117018) ∧ tw_01 a37.1 = true) (Q (a37.1, a37.2.1))) (fun (j38 : (Int32 × dw_S × Nat × Nat) → Prop) =>
tw_jn (fun (a39 : dw_S × Nat × Nat) =>
j38 ((0 : Int32), a39.1, a39.2.1, a39.2.2)) (fun (j40 : (dw_S × Nat × Nat) → Prop) =>
if a33.1 = 0 then (j40 (a33.2.2.1, a33.2.2.2.1, a33.2.2.2.2))
else (pw_ck (a33.2.2.2.1 ≤ 1457 ∧ a33.2.2.2.2 ≤ 117018) (
pw_bd (tw_P_X11_chestIsLeft n (dw_s a33.2.2.1)) (fun r41 =>
pw_ck (dw_is (dw_cs a33.2.2.1 r41.2) r1 13) (
tw_jn (fun (a42 : Int32 × dw_S × Nat × Nat) =>
if ¬ r41.1 = a42.1 then (j40 (a42.2.1, a42.2.2.1, a42.2.2.2))
else (j38 ((1 : Int32), a42.2.1, a42.2.2.1, a42.2.2.2))) (fun (j43 : (Int32 × dw_S × Nat × Nat) → Prop) =>
tw_jn (fun (a44 : dw_S × Nat × Nat) =>
j43 ((0 : Int32), a44.1, a44.2.1, a44.2.2)) (fun (j45 : (dw_S × Nat × Nat) → Prop) =>
if ¬ (dw_i (dw_cs a33.2.2.1 r41.2) r1 9) = (1 : Int32) then (j45 ((dw_cs a33.2.2.1 r41.2), a33.2.2.2.1, a33.2.2.2.2))
else (pw_ck (dw_is (dw_cs a33.2.2.1 r41.2) r1 13 ∧ (a33.2.2.2.1 + 95) ≤ 1457 ∧ (a33.2.2.2.2 + 8574) ≤ 117018) (
dw_P_X13_left n r1 (dw_cs a33.2.2.1 r41.2) (fun (r46 : Nat × dw_S) =>
pw_ck (dw_is r46.2 r1 13) (
pw_ck (dw_is r46.2 r46.1 21 ∧ tw_ok (dw_i r46.2 r1 10) (dw_l r46.2 r46.1) = true) (
if (dw_i r46.2 r46.1 (Int32.toNatClampNeg (dw_i r46.2 r1 10))) = 0 then (j45 (r46.2, (a33.2.2.2.1 + 95), (a33.2.2.2.2 + 8574)))
else (j43 ((1 : Int32), r46.2, (a33.2.2.2.1 + 95), (a33.2.2.2.2 + 8574))))))))))))))))) (fun (j36 : (Unit) → Prop) =>
if (Int32.ofNat (dw_l a33.2.2.1 r31.1)) ≤ a33.2.1 then (j36 ())
else (if a33.1 = 0 then (j36 ())
else (pw_ck (dw_is a33.2.2.1 r1 13) (
pw_ck (¬ (dw_i a33.2.2.1 r1 0) = 0) (
pw_ck (dw_is a33.2.2.1 r1 13) (
pw_ck (¬ (dw_i a33.2.2.1 r1 0) = 0) (
pw_ck ((a33.2.2.2.1 + 1) ≤ 1457 ∧ (a33.2.2.2.2 + 6) ≤ 117018) (
dw_P_L_why n (a33.2.1 - a33.2.1 / (dw_i a33.2.2.1 r1 0) * (dw_i a33.2.2.1 r1 0)) (a33.2.1 / (dw_i a33.2.2.1 r1 0)) a33.2.2.1 (fun (r47 : Int32 × dw_S) =>
pw_ck (dw_is r47.2 r31.1 20 ∧ tw_ok a33.2.1 (dw_l r47.2 r31.1) = true) (
tw_jn (fun (a48 : Int32) =>
pw_lt a48 (fun (v50 : Int32) =>
pw_lt (a33.2.1 + (1 : Int32)) (fun (v51 : Int32) =>
k34 (v50, v51, r47.2, (a33.2.2.2.1 + 1), (a33.2.2.2.2 + 6))))) (fun (j49 : (Int32) → Prop) =>
if ¬ r47.1 = (dw_i r47.2 r31.1 (Int32.toNatClampNeg a33.2.1)) then (j49 (0 : Int32))
else (j49 (1 : Int32))))))))))))))) n (a27.1, v32, r31.2, (a27.2.2.2.1 + 94), (a27.2.2.2.2 + 8544)))))) (fun (j30 : (Unit) → Prop) =>
if (13 : Int32) ≤ a27.2.1 then (j30 ())
else (if a27.1 = 0 then (j30 ())
else (pw_ck ((a27.2.2.2.1 + 1) ≤ 1457 ∧ (a27.2.2.2.2 + 6) ≤ 117018) (
dw_P_L_state n a27.2.1 a27.2.2.1 (fun (r52 : Int32 × dw_S) =>
pw_ck (dw_is r52.2 r1 13 ∧ ((a27.2.2.2.1 + 1) + (dw_tc a27.2.1)) ≤ 1457 ∧ ((a27.2.2.2.2 + 6) + (dw_ts a27.2.1)) ≤ 117018) (
dw_P_X13_told n r1 a27.2.1 r52.2 (fun (r53 : Int32 × dw_S) =>
tw_jn (fun (a54 : Int32) =>
pw_lt a54 (fun (v56 : Int32) =>
pw_lt (a27.2.1 + (1 : Int32)) (fun (v57 : Int32) =>
k28 (v56, v57, r53.2, ((a27.2.2.2.1 + 1) + (dw_tc a27.2.1)), ((a27.2.2.2.2 + 6) + (dw_ts a27.2.1)))))) (fun (j55 : (Int32) → Prop) =>
if ¬ r52.1 = r53.1 then (j55 (0 : Int32))
else (j55 (1 : Int32))))))))))) n (v25, v26, a23.2.1, a23.2.2.1, a23.2.2.2)))) (fun (j24 : (Int32 × dw_S × Nat × Nat) → Prop) =>
tw_jn (fun (a58 : dw_S × Nat × Nat) =>
j24 ((0 : Int32), a58.1, a58.2.1, a58.2.2)) (fun (j59 : (dw_S × Nat × Nat) → Prop) =>
if ¬ (lg_cmp r21.1 r22.1) = 0 then (j59 (r22.2, 844, 71112))
else (dw_P_L_state n (13 : Int32) r22.2 (fun (r60 : Int32 × dw_S) =>
if ¬ r60.1 = (-2000000098 : Int32) then (j59 (r60.2, 845, 71118))
else (pw_ck (dw_is r60.2 r1 13) (
dw_P_L_cell n (dw_i r60.2 r1 0) (0 : Int32) r60.2 (fun (r61 : Int32 × dw_S) =>
if ¬ r61.1 = (-2000000097 : Int32) then (j59 (r61.2, 846, 71124))
else (pw_ck (dw_is r61.2 r1 13) (
pw_nn (dw_r r61.2 r1 6) (fun (r62 : Nat) =>
pw_ck (dw_is r61.2 r62 24) (
dw_P_L_reached n (Int32.ofNat (dw_l r61.2 r62)) (0 : Int32) r61.2 (fun (r63 : Int32 × dw_S) =>
if ¬ r63.1 = (-2000000097 : Int32) then (j59 (r63.2, 847, 71130))
else (j24 ((1 : Int32), r63.2, 847, 71130)))))))))))))))))
theorem dw_y_L_agrees : tw_My yL_agrees cL_agrees 5 (some .boolean) 2 := ⟨List.mem_of_getElem? dw_w1544, List.mem_of_getElem? dw_w35, by decide +kernel, by decide +kernel, by decide +kernel⟩
theorem dw_v_L_agrees : tw_Ms yL_agrees := List.mem_of_getElem? dw_w1543
set_option maxRecDepth 100000 in
set_option maxHeartbeats 4000000 in
theorem dw_m_L_agrees {l : Launch} {b : Nat} {D : tw_G} {C : Nat → ClassId} {S : Nat → Nat} (hD : D.2 = []) {n : Nat} {r1 : Nat} {Y : dw_S} {Q : Int32 × dw_S → Prop} (hst : l.stackTraces = false)  (h : dw_P_L_agrees n r1 Y Q) : dw_Met l b D C S yL_agrees cL_agrees 5 (some .boolean) ({ frames := 13, cells := 1457, slots := 117018, locals := 344 } : Room) [.ref (b + 0), .ref (b + r1)] Y (fun r => some (.int r.1)) (fun r => r.2) Q := by
  refine dw_metOf (dw_P_L_agrees n r1 Y Q) h _ _ Q (by decide +kernel) (Nat.le_of_ble_eq_true rfl) ?_
  intro z el eB eD eC eS eR X hA hnm hret hQ
  subst el eD eC eS
  have hb : tw_zB z ≤ b := Nat.le_of_eq eB
  have hA : dw_AK (tw_zB z) (tw_zS z) (tw_zs z) := by rw [eB]; exact hA
  have hfr : (tw_zR z).frames = 13 := by rw [eR]
  have hlo : (tw_zR z).locals = 344 := by rw [eR]
  have eMC : (tw_zR z).cells = 1457 := by rw [eR]
  have eMS : (tw_zR z).slots = 117018 := by rw [eR]
  have X : tw_X z cL_agrees "TreasureWalkLaw" 5 := X
  show dw_Rf (tw_cz z 0 0) b _ Y 0 [(0, .ref (b + 0)), (1, .ref (b + r1))] []
  unfold dw_P_L_agrees
  refine e_aload_n (z := tw_cz z 0 0) (dw_zX X) dL_agrees_0 rfl 0 rfl ?_
  refine dw_ckp (by exact ⟨Nat.le_of_ble_eq_true rfl, Nat.le_of_ble_eq_true rfl⟩) (e_cls (e := tw_P_X11_checksum n (dw_s Y)) (rv := fun r => some (.long r.1)) (σ' := fun r => r.2) (As := []) (z := tw_cz z 0 0) (dw_zX X) (dw_zb hb) ⟨rfl, rfl⟩ ⟨eMC, eMS⟩ dL_agrees_1 (fun r h => tw_m_X11_checksum h) tw_y_X11_checksum tw_v_X11_checksum _ dw_w1545 rfl ⟨rfl, rfl, tw_le hfr rfl, tw_le hlo rfl⟩ (Nat.le_of_ble_eq_true rfl) rfl (fun r21 => ?_))
  show dw_Rf (tw_cz z 0 0) b _ (dw_cs Y r21.2) _ [(0, .ref (b + 0)), (1, .ref (b + r1))] [.long r21.1]
  refine e_aload_n (z := tw_cz z 0 0) (dw_zX X) dL_agrees_4 rfl 1 rfl ?_
  refine dw_ckq (by exact ⟨Nat.le_of_ble_eq_true rfl, Nat.le_of_ble_eq_true rfl⟩) (e_callV (k := r1) (ci := 13) (Cn := "TreasureWalkLaw$Island") (T := TX13) (N := 13) (c := 0) (s := 0) (As := []) (z := tw_cz z 0 0) (dw_zX X) (dw_zA hA) (dw_zb hb) (dw_zD hD) dw_z0 (dw_zM eMC eMS) dL_agrees_5 (fun Q h => dw_m_X13_checksum (dw_zD hD) h) dw_y_X13_checksum dw_v_X13_checksum _ dw_w1581 (by decide) rfl (fun h => dw_E13 h) rfl ⟨dw_zf hfr rfl, dw_zl hlo rfl⟩ (Nat.le_of_ble_eq_true rfl) rfl (fun r22 => ?_))
  show dw_Rf (tw_cz z 844 71112) b _ r22.2 _ [(0, .ref (b + 0)), (1, .ref (b + r1))] [.long r22.1, .long r21.1]
  refine e_lcmp (z := tw_cz z 844 71112) (dw_zX X) dL_agrees_8 ?_
  refine e_jn (α := Int32 × dw_S × Nat × Nat) (zJ := fun a23 => tw_cz z a23.2.2.1 a23.2.2.2) (YJ := fun a23 => a23.2.1) (pcJ := 57) (LJ := fun a23 => [(0, .ref (b + 0)), (1, .ref (b + r1))]) (stJ := fun a23 => [.int a23.1]) (fun a23 => ?_) (fun j24 hj24 => ?_)
  ·
    refine e_istore_n (z := tw_cz z a23.2.2.1 a23.2.2.2) (dw_zX X) dL_agrees_57 rfl (by decide) (LL := fun v25 => [(2, .int v25), (0, .ref (b + 0)), (1, .ref (b + r1))]) (fun _ => rfl) (fun v25 => ?_)
    refine e_iconst (z := tw_cz z a23.2.2.1 a23.2.2.2) (dw_zX X) dL_agrees_58 (v := (0 : Int32)) (by decide) ?_
    refine e_istore_n (z := tw_cz z a23.2.2.1 a23.2.2.2) (dw_zX X) dL_agrees_59 rfl (by decide) (LL := fun v26 => [(3, .int v26), (2, .int v25), (0, .ref (b + 0)), (1, .ref (b + r1))]) (fun _ => rfl) (fun v26 => ?_)
    refine e_lp (α := Int32 × Int32 × dw_S × Nat × Nat) (zJ := fun a27 => tw_cz z a27.2.2.2.1 a27.2.2.2.2) (YJ := fun a27 => a27.2.2.1) (pcJ := 60) (LJ := fun a27 => [(3, .int a27.2.1), (2, .int a27.1), (0, .ref (b + 0)), (1, .ref (b + r1))]) (stJ := fun a27 => []) (fun k28 hk28 a27 => ?_) n (v25, v26, a23.2.1, a23.2.2.1, a23.2.2.2)
    refine e_iload_n (z := tw_cz z a27.2.2.2.1 a27.2.2.2.2) (dw_zX X) dL_agrees_60 rfl 0 rfl ?_
    refine e_bipush (z := tw_cz z a27.2.2.2.1 a27.2.2.2.2) (dw_zX X) dL_agrees_61 (v := (13 : Int32)) (by decide) ?_
    refine e_jn (α := Unit) (zJ := fun a29 => tw_cz z a27.2.2.2.1 a27.2.2.2.2) (YJ := fun a29 => a27.2.2.1) (pcJ := 95) (LJ := fun a29 => [(2, .int a27.1), (0, .ref (b + 0)), (1, .ref (b + r1))]) (stJ := fun a29 => []) (fun a29 => ?_) (fun j30 hj30 => ?_)
    ·
      refine e_aload_n (z := tw_cz z a27.2.2.2.1 a27.2.2.2.2) (dw_zX X) dL_agrees_95 rfl 2 rfl ?_
      refine e_callV (k := r1) (ci := 13) (Cn := "TreasureWalkLaw$Island") (T := TX13) (N := 13) (c := a27.2.2.2.1) (s := a27.2.2.2.2) (As := []) (z := tw_cz z a27.2.2.2.1 a27.2.2.2.2) (dw_zX X) (dw_zA hA) (dw_zb hb) (dw_zD hD) dw_z0 (dw_zM eMC eMS) dL_agrees_96 (fun Q h => dw_m_X13_reasons (dw_zD hD) h) dw_y_X13_reasons dw_v_X13_reasons _ dw_w1608 (by decide) rfl (fun h => dw_E13 h) rfl ⟨dw_zf hfr rfl, dw_zl hlo rfl⟩ (Nat.le_of_ble_eq_true rfl) rfl (fun r31 => ?_)
      show dw_Rf (tw_cz z (a27.2.2.2.1 + 94) (a27.2.2.2.2 + 8544)) b _ r31.2 _ [(2, .int a27.1), (0, .ref (b + 0)), (1, .ref (b + r1))] [.ref (b + r31.1)]
      refine e_astore_n (z := tw_cz z (a27.2.2.2.1 + 94) (a27.2.2.2.2 + 8544)) (dw_zX X) dL_agrees_99 rfl (by decide) (L' := [(3, .ref (b + r31.1)), (2, .int a27.1), (0, .ref (b + 0)), (1, .ref (b + r1))]) rfl ?_
      refine e_iconst (z := tw_cz z (a27.2.2.2.1 + 94) (a27.2.2.2.2 + 8544)) (dw_zX X) dL_agrees_100 (v := (0 : Int32)) (by decide) ?_
      refine e_istore (z := tw_cz z (a27.2.2.2.1 + 94) (a27.2.2.2.2 + 8544)) (dw_zX X) dL_agrees_101 (by decide) (LL := fun v32 => [(4, .int v32), (3, .ref (b + r31.1)), (2, .int a27.1), (0, .ref (b + 0)), (1, .ref (b + r1))]) (fun _ => rfl) (fun v32 => ?_)
      refine e_lp (α := Int32 × Int32 × dw_S × Nat × Nat) (zJ := fun a33 => tw_cz z a33.2.2.2.1 a33.2.2.2.2) (YJ := fun a33 => a33.2.2.1) (pcJ := 103) (LJ := fun a33 => [(4, .int a33.2.1), (3, .ref (b + r31.1)), (2, .int a33.1), (0, .ref (b + 0)), (1, .ref (b + r1))]) (stJ := fun a33 => []) (fun k34 hk34 a33 => ?_) n (a27.1, v32, r31.2, (a27.2.2.2.1 + 94), (a27.2.2.2.2 + 8544))
      refine e_iload (z := tw_cz z a33.2.2.2.1 a33.2.2.2.2) (dw_zX X) dL_agrees_103 0 rfl ?_
      refine e_aload_n (z := tw_cz z a33.2.2.2.1 a33.2.2.2.2) (dw_zX X) dL_agrees_105 rfl 1 rfl ?_
      refine e_alen (k := r31.1) (kd := 20) (a := 0) (ty := .int) (x := (0, .inl (dw_i a33.2.2.1 r31.1))) (z := tw_cz z a33.2.2.2.1 a33.2.2.2.2) (dw_zX X) dL_agrees_106 (by decide) (fun h => dw_E20 h) rfl ?_
      refine e_jn (α := Unit) (zJ := fun a35 => tw_cz z a33.2.2.2.1 a33.2.2.2.2) (YJ := fun a35 => a33.2.2.1) (pcJ := 151) (LJ := fun a35 => [(2, .int a33.1), (0, .ref (b + 0)), (1, .ref (b + r1))]) (stJ := fun a35 => []) (fun a35 => ?_) (fun j36 hj36 => ?_)
      ·
        refine e_iload_n (z := tw_cz z a33.2.2.2.1 a33.2.2.2.2) (dw_zX X) dL_agrees_151 rfl 0 rfl ?_
        refine e_jn (α := Int32 × dw_S × Nat × Nat) (zJ := fun a37 => tw_cz z a37.2.2.1 a37.2.2.2) (YJ := fun a37 => a37.2.1) (pcJ := 192) (LJ := fun a37 => []) (stJ := fun a37 => [.int a37.1]) (fun a37 => ?_) (fun j38 hj38 => ?_)
        ·
          exact e_zret (z := z) X eB dL_agrees_192 hret ⟨eMC, eMS⟩ hQ rfl rfl
        refine e_jn (α := dw_S × Nat × Nat) (zJ := fun a39 => tw_cz z a39.2.1 a39.2.2) (YJ := fun a39 => a39.1) (pcJ := 191) (LJ := fun a39 => []) (stJ := fun a39 => []) (fun a39 => ?_) (fun j40 hj40 => ?_)
        ·
          refine e_iconst (z := tw_cz z a39.2.1 a39.2.2) (dw_zX X) dL_agrees_191 (v := (0 : Int32)) (by decide) ?_
          exact hj38 ((0 : Int32), a39.1, a39.2.1, a39.2.2)
        refine e_if_eq (z := tw_cz z a33.2.2.2.1 a33.2.2.2.2) (dw_zX X) dL_agrees_152 (tgt := 191) (by decide) ?_ ?_
        ·
          exact dw_Rf.sub [] rfl (hj40 (a33.2.2.1, a33.2.2.2.1, a33.2.2.2.2))
        ·
          refine e_aload_n (z := tw_cz z a33.2.2.2.1 a33.2.2.2.2) (dw_zX X) dL_agrees_155 rfl 1 rfl ?_
          refine e_cls (e := tw_P_X11_chestIsLeft n (dw_s a33.2.2.1)) (rv := fun r => some (.int r.1)) (σ' := fun r => r.2) (As := []) (z := tw_cz z a33.2.2.2.1 a33.2.2.2.2) (dw_zX X) (dw_zb hb) ⟨rfl, rfl⟩ ⟨eMC, eMS⟩ dL_agrees_156 (fun r h => tw_m_X11_chestIsLeft h) tw_y_X11_chestIsLeft tw_v_X11_chestIsLeft _ dw_w1620 rfl ⟨rfl, rfl, tw_le hfr rfl, tw_le hlo rfl⟩ (Nat.le_of_ble_eq_true rfl) rfl (fun r41 => ?_)
          show dw_Rf (tw_cz z a33.2.2.2.1 a33.2.2.2.2) b _ (dw_cs a33.2.2.1 r41.2) _ [(2, .int a33.1), (0, .ref (b + 0)), (1, .ref (b + r1))] [.int r41.1]
          refine e_aload_n (z := tw_cz z a33.2.2.2.1 a33.2.2.2.2) (dw_zX X) dL_agrees_159 rfl 2 rfl ?_
          refine e_getf (ci := 13) (T := TX13) (f := 9) (k := r1) (z := tw_cz z a33.2.2.2.1 a33.2.2.2.2) (dw_zX X) dL_agrees_160 (Or.inl ⟨_, dw_w609⟩) dw_in13 rfl (by decide) (by decide) (fun h => dw_E13 h) rfl ?_
          refine e_iconst (z := tw_cz z a33.2.2.2.1 a33.2.2.2.2) (dw_zX X) dL_agrees_163 (v := (1 : Int32)) (by decide) ?_
          refine e_jn (α := Int32 × dw_S × Nat × Nat) (zJ := fun a42 => tw_cz z a42.2.2.1 a42.2.2.2) (YJ := fun a42 => a42.2.1) (pcJ := 184) (LJ := fun a42 => []) (stJ := fun a42 => [.int a42.1, .int r41.1]) (fun a42 => ?_) (fun j43 hj43 => ?_)
          ·
            refine e_icmp_ne (z := tw_cz z a42.2.2.1 a42.2.2.2) (dw_zX X) dL_agrees_184 (tgt := 191) (by decide) ?_ ?_
            ·
              exact hj40 (a42.2.1, a42.2.2.1, a42.2.2.2)
            ·
              refine e_iconst (z := tw_cz z a42.2.2.1 a42.2.2.2) (dw_zX X) dL_agrees_187 (v := (1 : Int32)) (by decide) ?_
              refine e_goto (z := tw_cz z a42.2.2.1 a42.2.2.2) (dw_zX X) dL_agrees_188 (tgt := 192) (by decide) ?_
              exact hj38 ((1 : Int32), a42.2.1, a42.2.2.1, a42.2.2.2)
          refine e_jn (α := dw_S × Nat × Nat) (zJ := fun a44 => tw_cz z a44.2.1 a44.2.2) (YJ := fun a44 => a44.1) (pcJ := 183) (LJ := fun a44 => []) (stJ := fun a44 => [.int r41.1]) (fun a44 => ?_) (fun j45 hj45 => ?_)
          ·
            refine e_iconst (z := tw_cz z a44.2.1 a44.2.2) (dw_zX X) dL_agrees_183 (v := (0 : Int32)) (by decide) ?_
            exact hj43 ((0 : Int32), a44.1, a44.2.1, a44.2.2)
          refine e_icmp_ne (z := tw_cz z a33.2.2.2.1 a33.2.2.2.2) (dw_zX X) dL_agrees_164 (tgt := 183) (by decide) ?_ ?_
          ·
            exact dw_Rf.sub [] rfl (hj45 ((dw_cs a33.2.2.1 r41.2), a33.2.2.2.1, a33.2.2.2.2))
          ·
            refine e_aload_n (z := tw_cz z a33.2.2.2.1 a33.2.2.2.2) (dw_zX X) dL_agrees_167 rfl 2 rfl ?_
            refine e_callV (k := r1) (ci := 13) (Cn := "TreasureWalkLaw$Island") (T := TX13) (N := 13) (c := a33.2.2.2.1) (s := a33.2.2.2.2) (As := []) (z := tw_cz z a33.2.2.2.1 a33.2.2.2.2) (dw_zX X) (dw_zA hA) (dw_zb hb) (dw_zD hD) dw_z0 (dw_zM eMC eMS) dL_agrees_168 (fun Q h => dw_m_X13_left (dw_zD hD) h) dw_y_X13_left dw_v_X13_left _ dw_w682 (by decide) rfl (fun h => dw_E13 h) rfl ⟨dw_zf hfr rfl, dw_zl hlo rfl⟩ (Nat.le_of_ble_eq_true rfl) rfl (fun r46 => ?_)
            show dw_Rf (tw_cz z (a33.2.2.2.1 + 95) (a33.2.2.2.2 + 8574)) b _ r46.2 _ [(2, .int a33.1), (0, .ref (b + 0)), (1, .ref (b + r1))] [.ref (b + r46.1), .int r41.1]
            refine e_aload_n (z := tw_cz z (a33.2.2.2.1 + 95) (a33.2.2.2.2 + 8574)) (dw_zX X) dL_agrees_171 rfl 2 rfl ?_
            refine e_getf (ci := 13) (T := TX13) (f := 10) (k := r1) (z := tw_cz z (a33.2.2.2.1 + 95) (a33.2.2.2.2 + 8574)) (dw_zX X) dL_agrees_172 (Or.inl ⟨_, dw_w611⟩) dw_in13 rfl (by decide) (by decide) (fun h => dw_E13 h) rfl ?_
            refine e_zald (k := r46.1) (z := tw_cz z (a33.2.2.2.1 + 95) (a33.2.2.2.2 + 8574)) (dw_zX X) dL_agrees_175 ?_
            refine e_if_eq (z := tw_cz z (a33.2.2.2.1 + 95) (a33.2.2.2.2 + 8574)) (dw_zX X) dL_agrees_176 (tgt := 183) (by decide) ?_ ?_
            ·
              exact dw_Rf.sub [] rfl (hj45 (r46.2, (a33.2.2.2.1 + 95), (a33.2.2.2.2 + 8574)))
            ·
              refine e_iconst (z := tw_cz z (a33.2.2.2.1 + 95) (a33.2.2.2.2 + 8574)) (dw_zX X) dL_agrees_179 (v := (1 : Int32)) (by decide) ?_
              refine e_goto (z := tw_cz z (a33.2.2.2.1 + 95) (a33.2.2.2.2 + 8574)) (dw_zX X) dL_agrees_180 (tgt := 184) (by decide) ?_
              exact dw_Rf.sub [] rfl (hj43 ((1 : Int32), r46.2, (a33.2.2.2.1 + 95), (a33.2.2.2.2 + 8574)))
      refine e_icmp_ge (z := tw_cz z a33.2.2.2.1 a33.2.2.2.2) (dw_zX X) dL_agrees_107 (tgt := 151) (by decide) ?_ ?_
      ·
        exact dw_Rf.sub [2, 3, 4] rfl (hj36 ())
      ·
        refine e_iload_n (z := tw_cz z a33.2.2.2.1 a33.2.2.2.2) (dw_zX X) dL_agrees_110 rfl 2 rfl ?_
        refine e_if_eq (z := tw_cz z a33.2.2.2.1 a33.2.2.2.2) (dw_zX X) dL_agrees_111 (tgt := 151) (by decide) ?_ ?_
        ·
          exact dw_Rf.sub [2, 3, 4] rfl (hj36 ())
        ·
          refine e_aload_n (z := tw_cz z a33.2.2.2.1 a33.2.2.2.2) (dw_zX X) dL_agrees_114 rfl 3 rfl ?_
          refine e_iload (z := tw_cz z a33.2.2.2.1 a33.2.2.2.2) (dw_zX X) dL_agrees_115 0 rfl ?_
          refine e_aload_n (z := tw_cz z a33.2.2.2.1 a33.2.2.2.2) (dw_zX X) dL_agrees_117 rfl 4 rfl ?_
          refine e_getf (ci := 13) (T := TX13) (f := 0) (k := r1) (z := tw_cz z a33.2.2.2.1 a33.2.2.2.2) (dw_zX X) dL_agrees_118 (Or.inl ⟨_, dw_w591⟩) dw_in13 rfl (by decide) (by decide) (fun h => dw_E13 h) rfl ?_
          refine e_irem (z := tw_cz z a33.2.2.2.1 a33.2.2.2.2) (dw_zX X) dL_agrees_121 ?_
          refine e_iload (z := tw_cz z a33.2.2.2.1 a33.2.2.2.2) (dw_zX X) dL_agrees_122 0 rfl ?_
          refine e_aload_n (z := tw_cz z a33.2.2.2.1 a33.2.2.2.2) (dw_zX X) dL_agrees_124 rfl 4 rfl ?_
          refine e_getf (ci := 13) (T := TX13) (f := 0) (k := r1) (z := tw_cz z a33.2.2.2.1 a33.2.2.2.2) (dw_zX X) dL_agrees_125 (Or.inl ⟨_, dw_w591⟩) dw_in13 rfl (by decide) (by decide) (fun h => dw_E13 h) rfl ?_
          refine e_idiv (z := tw_cz z a33.2.2.2.1 a33.2.2.2.2) (dw_zX X) dL_agrees_128 ?_
          refine e_callW (c := a33.2.2.2.1) (s := a33.2.2.2.2) (As := [.ref (b + 0), .int (a33.2.1 - a33.2.1 / (dw_i a33.2.2.1 r1 0) * (dw_i a33.2.2.1 r1 0)), .int (a33.2.1 / (dw_i a33.2.2.1 r1 0))]) (z := tw_cz z a33.2.2.2.1 a33.2.2.2.2) (dw_zX X) (dw_zA hA) (dw_zb hb) (dw_zD hD) dw_z0 (dw_zM eMC eMS) dL_agrees_129 (fun Q h => dw_m_L_why hD hst h) dw_y_L_why _ dw_w1609 rfl ⟨dw_zf hfr rfl, dw_zl hlo rfl⟩ (Nat.le_of_ble_eq_true rfl) rfl (fun r47 => ?_)
          show dw_Rf (tw_cz z (a33.2.2.2.1 + 1) (a33.2.2.2.2 + 6)) b _ r47.2 _ [(4, .int a33.2.1), (3, .ref (b + r31.1)), (2, .int a33.1), (0, .ref (b + 0)), (1, .ref (b + r1))] [.int r47.1]
          refine e_aload_n (z := tw_cz z (a33.2.2.2.1 + 1) (a33.2.2.2.2 + 6)) (dw_zX X) dL_agrees_132 rfl 1 rfl ?_
          refine e_iload (z := tw_cz z (a33.2.2.2.1 + 1) (a33.2.2.2.2 + 6)) (dw_zX X) dL_agrees_133 0 rfl ?_
          refine e_iald (k := r31.1) (z := tw_cz z (a33.2.2.2.1 + 1) (a33.2.2.2.2 + 6)) (dw_zX X) dL_agrees_135 ?_
          refine e_jn (α := Int32) (zJ := fun a48 => tw_cz z (a33.2.2.2.1 + 1) (a33.2.2.2.2 + 6)) (YJ := fun a48 => r47.2) (pcJ := 144) (LJ := fun a48 => [(4, .int a33.2.1), (3, .ref (b + r31.1)), (0, .ref (b + 0)), (1, .ref (b + r1))]) (stJ := fun a48 => [.int a48]) (fun a48 => ?_) (fun j49 hj49 => ?_)
          ·
            refine e_istore_n (z := tw_cz z (a33.2.2.2.1 + 1) (a33.2.2.2.2 + 6)) (dw_zX X) dL_agrees_144 rfl (by decide) (LL := fun v50 => [(2, .int v50), (4, .int a33.2.1), (3, .ref (b + r31.1)), (0, .ref (b + 0)), (1, .ref (b + r1))]) (fun _ => rfl) (fun v50 => ?_)
            refine e_iinc (z := tw_cz z (a33.2.2.2.1 + 1) (a33.2.2.2.2 + 6)) (dw_zX X) dL_agrees_145 1 rfl (v := (1 : Int32)) (by decide) (by decide) (LL := fun v51 => [(4, .int v51), (2, .int v50), (3, .ref (b + r31.1)), (0, .ref (b + 0)), (1, .ref (b + r1))]) (fun _ => rfl) (fun v51 => ?_)
            refine e_goto (z := tw_cz z (a33.2.2.2.1 + 1) (a33.2.2.2.2 + 6)) (dw_zX X) dL_agrees_148 (tgt := 103) (by decide) ?_
            exact dw_Rf.sub [0, 2, 1, 3, 4] rfl (hk34 (v50, v51, r47.2, (a33.2.2.2.1 + 1), (a33.2.2.2.2 + 6)))
          refine e_icmp_ne (z := tw_cz z (a33.2.2.2.1 + 1) (a33.2.2.2.2 + 6)) (dw_zX X) dL_agrees_136 (tgt := 143) (by decide) ?_ ?_
          ·
            refine e_iconst (z := tw_cz z (a33.2.2.2.1 + 1) (a33.2.2.2.2 + 6)) (dw_zX X) dL_agrees_143 (v := (0 : Int32)) (by decide) ?_
            exact dw_Rf.sub [0, 1, 3, 4] rfl (hj49 (0 : Int32))
          ·
            refine e_iconst (z := tw_cz z (a33.2.2.2.1 + 1) (a33.2.2.2.2 + 6)) (dw_zX X) dL_agrees_139 (v := (1 : Int32)) (by decide) ?_
            refine e_goto (z := tw_cz z (a33.2.2.2.1 + 1) (a33.2.2.2.2 + 6)) (dw_zX X) dL_agrees_140 (tgt := 144) (by decide) ?_
            exact dw_Rf.sub [0, 1, 3, 4] rfl (hj49 (1 : Int32))
    refine e_icmp_ge (z := tw_cz z a27.2.2.2.1 a27.2.2.2.2) (dw_zX X) dL_agrees_63 (tgt := 95) (by decide) ?_ ?_
    ·
      exact dw_Rf.sub [1, 2, 3] rfl (hj30 ())
    ·
      refine e_iload_n (z := tw_cz z a27.2.2.2.1 a27.2.2.2.2) (dw_zX X) dL_agrees_66 rfl 1 rfl ?_
      refine e_if_eq (z := tw_cz z a27.2.2.2.1 a27.2.2.2.2) (dw_zX X) dL_agrees_67 (tgt := 95) (by decide) ?_ ?_
      ·
        exact dw_Rf.sub [1, 2, 3] rfl (hj30 ())
      ·
        refine e_aload_n (z := tw_cz z a27.2.2.2.1 a27.2.2.2.2) (dw_zX X) dL_agrees_70 rfl 2 rfl ?_
        refine e_iload_n (z := tw_cz z a27.2.2.2.1 a27.2.2.2.2) (dw_zX X) dL_agrees_71 rfl 0 rfl ?_
        refine e_callW (c := a27.2.2.2.1) (s := a27.2.2.2.2) (As := [.ref (b + 0), .int a27.2.1]) (z := tw_cz z a27.2.2.2.1 a27.2.2.2.2) (dw_zX X) (dw_zA hA) (dw_zb hb) (dw_zD hD) dw_z0 (dw_zM eMC eMS) dL_agrees_72 (fun Q h => dw_m_L_state hD hst h) dw_y_L_state _ dw_w1595 rfl ⟨dw_zf hfr rfl, dw_zl hlo rfl⟩ (Nat.le_of_ble_eq_true rfl) rfl (fun r52 => ?_)
        show dw_Rf (tw_cz z (a27.2.2.2.1 + 1) (a27.2.2.2.2 + 6)) b _ r52.2 _ [(3, .int a27.2.1), (2, .int a27.1), (0, .ref (b + 0)), (1, .ref (b + r1))] [.int r52.1]
        refine e_aload_n (z := tw_cz z (a27.2.2.2.1 + 1) (a27.2.2.2.2 + 6)) (dw_zX X) dL_agrees_75 rfl 3 rfl ?_
        refine e_iload_n (z := tw_cz z (a27.2.2.2.1 + 1) (a27.2.2.2.2 + 6)) (dw_zX X) dL_agrees_76 rfl 0 rfl ?_
        refine e_callV (k := r1) (ci := 13) (Cn := "TreasureWalkLaw$Island") (T := TX13) (N := 13) (c := (a27.2.2.2.1 + 1)) (s := (a27.2.2.2.2 + 6)) (As := [.int a27.2.1]) (z := tw_cz z (a27.2.2.2.1 + 1) (a27.2.2.2.2 + 6)) (dw_zX X) (dw_zA hA) (dw_zb hb) (dw_zD hD) dw_z0 (dw_zM eMC eMS) dL_agrees_77 (fun Q h => dw_m_X13_told (dw_zD hD) h) dw_y_X13_told dw_v_X13_told _ dw_w1607 (by decide) rfl (fun h => dw_E13 h) rfl ⟨dw_zf hfr rfl, dw_zl hlo rfl⟩ (Nat.le_of_ble_eq_true rfl) rfl (fun r53 => ?_)
        show dw_Rf (tw_cz z ((a27.2.2.2.1 + 1) + (dw_tc a27.2.1)) ((a27.2.2.2.2 + 6) + (dw_ts a27.2.1))) b _ r53.2 _ [(3, .int a27.2.1), (2, .int a27.1), (0, .ref (b + 0)), (1, .ref (b + r1))] [.int r53.1, .int r52.1]
        refine e_jn (α := Int32) (zJ := fun a54 => tw_cz z ((a27.2.2.2.1 + 1) + (dw_tc a27.2.1)) ((a27.2.2.2.2 + 6) + (dw_ts a27.2.1))) (YJ := fun a54 => r53.2) (pcJ := 88) (LJ := fun a54 => [(3, .int a27.2.1), (0, .ref (b + 0)), (1, .ref (b + r1))]) (stJ := fun a54 => [.int a54]) (fun a54 => ?_) (fun j55 hj55 => ?_)
        ·
          refine e_istore_n (z := tw_cz z ((a27.2.2.2.1 + 1) + (dw_tc a27.2.1)) ((a27.2.2.2.2 + 6) + (dw_ts a27.2.1))) (dw_zX X) dL_agrees_88 rfl (by decide) (LL := fun v56 => [(2, .int v56), (3, .int a27.2.1), (0, .ref (b + 0)), (1, .ref (b + r1))]) (fun _ => rfl) (fun v56 => ?_)
          refine e_iinc (z := tw_cz z ((a27.2.2.2.1 + 1) + (dw_tc a27.2.1)) ((a27.2.2.2.2 + 6) + (dw_ts a27.2.1))) (dw_zX X) dL_agrees_89 1 rfl (v := (1 : Int32)) (by decide) (by decide) (LL := fun v57 => [(3, .int v57), (2, .int v56), (0, .ref (b + 0)), (1, .ref (b + r1))]) (fun _ => rfl) (fun v57 => ?_)
          refine e_goto (z := tw_cz z ((a27.2.2.2.1 + 1) + (dw_tc a27.2.1)) ((a27.2.2.2.2 + 6) + (dw_ts a27.2.1))) (dw_zX X) dL_agrees_92 (tgt := 60) (by decide) ?_
          exact hk28 (v56, v57, r53.2, ((a27.2.2.2.1 + 1) + (dw_tc a27.2.1)), ((a27.2.2.2.2 + 6) + (dw_ts a27.2.1)))
        refine e_icmp_ne (z := tw_cz z ((a27.2.2.2.1 + 1) + (dw_tc a27.2.1)) ((a27.2.2.2.2 + 6) + (dw_ts a27.2.1))) (dw_zX X) dL_agrees_80 (tgt := 87) (by decide) ?_ ?_
        ·
          refine e_iconst (z := tw_cz z ((a27.2.2.2.1 + 1) + (dw_tc a27.2.1)) ((a27.2.2.2.2 + 6) + (dw_ts a27.2.1))) (dw_zX X) dL_agrees_87 (v := (0 : Int32)) (by decide) ?_
          exact dw_Rf.sub [0, 2, 3] rfl (hj55 (0 : Int32))
        ·
          refine e_iconst (z := tw_cz z ((a27.2.2.2.1 + 1) + (dw_tc a27.2.1)) ((a27.2.2.2.2 + 6) + (dw_ts a27.2.1))) (dw_zX X) dL_agrees_83 (v := (1 : Int32)) (by decide) ?_
          refine e_goto (z := tw_cz z ((a27.2.2.2.1 + 1) + (dw_tc a27.2.1)) ((a27.2.2.2.2 + 6) + (dw_ts a27.2.1))) (dw_zX X) dL_agrees_84 (tgt := 88) (by decide) ?_
          exact dw_Rf.sub [0, 2, 3] rfl (hj55 (1 : Int32))
  refine e_jn (α := dw_S × Nat × Nat) (zJ := fun a58 => tw_cz z a58.2.1 a58.2.2) (YJ := fun a58 => a58.1) (pcJ := 56) (LJ := fun a58 => [(0, .ref (b + 0)), (1, .ref (b + r1))]) (stJ := fun a58 => []) (fun a58 => ?_) (fun j59 hj59 => ?_)
  ·
    refine e_iconst (z := tw_cz z a58.2.1 a58.2.2) (dw_zX X) dL_agrees_56 (v := (0 : Int32)) (by decide) ?_
    exact hj24 ((0 : Int32), a58.1, a58.2.1, a58.2.2)
  refine e_if_ne (z := tw_cz z 844 71112) (dw_zX X) dL_agrees_9 (tgt := 56) (by decide) ?_ ?_
  ·
    exact hj59 (r22.2, 844, 71112)
  ·
    refine e_aload_n (z := tw_cz z 844 71112) (dw_zX X) dL_agrees_12 rfl 0 rfl ?_
    refine e_bipush (z := tw_cz z 844 71112) (dw_zX X) dL_agrees_13 (v := (13 : Int32)) (by decide) ?_
    refine dw_ckp (by exact ⟨Nat.le_of_ble_eq_true rfl, Nat.le_of_ble_eq_true rfl⟩) (e_callW (c := 844) (s := 71112) (As := [.ref (b + 0), .int (13 : Int32)]) (z := tw_cz z 844 71112) (dw_zX X) (dw_zA hA) (dw_zb hb) (dw_zD hD) dw_z0 (dw_zM eMC eMS) dL_agrees_15 (fun Q h => dw_m_L_state hD hst h) dw_y_L_state _ dw_w1595 rfl ⟨dw_zf hfr rfl, dw_zl hlo rfl⟩ (Nat.le_of_ble_eq_true rfl) rfl (fun r60 => ?_))
    show dw_Rf (tw_cz z 845 71118) b _ r60.2 _ [(0, .ref (b + 0)), (1, .ref (b + r1))] [.int r60.1]
    refine e_ldcI (z := tw_cz z 845 71118) (dw_zX X) dL_agrees_18 (v := (-2000000098 : Int32)) _ dw_w1033 ?_
    refine e_icmp_ne (z := tw_cz z 845 71118) (dw_zX X) dL_agrees_20 (tgt := 56) (by decide) ?_ ?_
    ·
      exact hj59 (r60.2, 845, 71118)
    ·
      refine e_aload_n (z := tw_cz z 845 71118) (dw_zX X) dL_agrees_23 rfl 0 rfl ?_
      refine e_aload_n (z := tw_cz z 845 71118) (dw_zX X) dL_agrees_24 rfl 1 rfl ?_
      refine e_getf (ci := 13) (T := TX13) (f := 0) (k := r1) (z := tw_cz z 845 71118) (dw_zX X) dL_agrees_25 (Or.inl ⟨_, dw_w591⟩) dw_in13 rfl (by decide) (by decide) (fun h => dw_E13 h) rfl ?_
      refine e_iconst (z := tw_cz z 845 71118) (dw_zX X) dL_agrees_28 (v := (0 : Int32)) (by decide) ?_
      refine dw_ckp (by exact ⟨Nat.le_of_ble_eq_true rfl, Nat.le_of_ble_eq_true rfl⟩) (e_callW (c := 845) (s := 71118) (As := [.ref (b + 0), .int (dw_i r60.2 r1 0), .int (0 : Int32)]) (z := tw_cz z 845 71118) (dw_zX X) (dw_zA hA) (dw_zb hb) (dw_zD hD) dw_z0 (dw_zM eMC eMS) dL_agrees_29 (fun Q h => dw_m_L_cell hD hst h) dw_y_L_cell _ dw_w1599 rfl ⟨dw_zf hfr rfl, dw_zl hlo rfl⟩ (Nat.le_of_ble_eq_true rfl) rfl (fun r61 => ?_))
      show dw_Rf (tw_cz z 846 71124) b _ r61.2 _ [(0, .ref (b + 0)), (1, .ref (b + r1))] [.int r61.1]
      refine e_ldcI (z := tw_cz z 846 71124) (dw_zX X) dL_agrees_32 (v := (-2000000097 : Int32)) _ dw_w1070 ?_
      refine e_icmp_ne (z := tw_cz z 846 71124) (dw_zX X) dL_agrees_34 (tgt := 56) (by decide) ?_ ?_
      ·
        exact hj59 (r61.2, 846, 71124)
      ·
        refine e_aload_n (z := tw_cz z 846 71124) (dw_zX X) dL_agrees_37 rfl 0 rfl ?_
        refine e_aload_n (z := tw_cz z 846 71124) (dw_zX X) dL_agrees_38 rfl 1 rfl ?_
        refine e_getf (ci := 13) (T := TX13) (f := 6) (k := r1) (z := tw_cz z 846 71124) (dw_zX X) dL_agrees_39 (Or.inl ⟨_, dw_w603⟩) dw_in13 rfl (by decide) (by decide) (fun h => dw_E13 h) rfl ?_
        refine e_nn (r := (dw_r r61.2 r1 6)) (LL := fun _ => [(0, .ref (b + 0)), (1, .ref (b + r1))]) (SS := fun q => dw_v b q :: [.ref (b + 0)]) (fun r62 => ?_)
        show dw_Rf (tw_cz z 846 71124) b _ r61.2 _ [(0, .ref (b + 0)), (1, .ref (b + r1))] [.ref (b + r62), .ref (b + 0)]
        refine e_alen (k := r62) (kd := 24) (a := 7) (ty := .object "TreasureWalkLaw$Clue") (x := (0, .inr (.inr (.inr (.inr (fun j => Option.map (fun a => b + a) (dw_r r61.2 r62 j))))))) (z := tw_cz z 846 71124) (dw_zX X) dL_agrees_42 (by decide) (fun h => dw_E24 h) rfl ?_
        refine e_iconst (z := tw_cz z 846 71124) (dw_zX X) dL_agrees_43 (v := (0 : Int32)) (by decide) ?_
        refine dw_ckp (by exact ⟨Nat.le_of_ble_eq_true rfl, Nat.le_of_ble_eq_true rfl⟩) (e_callW (c := 846) (s := 71124) (As := [.ref (b + 0), .int (Int32.ofNat (dw_l r61.2 r62)), .int (0 : Int32)]) (z := tw_cz z 846 71124) (dw_zX X) (dw_zA hA) (dw_zb hb) (dw_zD hD) dw_z0 (dw_zM eMC eMS) dL_agrees_44 (fun Q h => dw_m_L_reached hD hst h) dw_y_L_reached _ dw_w1603 rfl ⟨dw_zf hfr rfl, dw_zl hlo rfl⟩ (Nat.le_of_ble_eq_true rfl) rfl (fun r63 => ?_))
        show dw_Rf (tw_cz z 847 71130) b _ r63.2 _ [(0, .ref (b + 0)), (1, .ref (b + r1))] [.int r63.1]
        refine e_ldcI (z := tw_cz z 847 71130) (dw_zX X) dL_agrees_47 (v := (-2000000097 : Int32)) _ dw_w1070 ?_
        refine e_icmp_ne (z := tw_cz z 847 71130) (dw_zX X) dL_agrees_49 (tgt := 56) (by decide) ?_ ?_
        ·
          exact hj59 (r63.2, 847, 71130)
        ·
          refine e_iconst (z := tw_cz z 847 71130) (dw_zX X) dL_agrees_52 (v := (1 : Int32)) (by decide) ?_
          refine e_goto (z := tw_cz z 847 71130) (dw_zX X) dL_agrees_53 (tgt := 57) (by decide) ?_
          exact hj24 ((1 : Int32), r63.2, 847, 71130)
