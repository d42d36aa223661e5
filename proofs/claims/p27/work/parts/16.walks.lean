def tw_P_X11_distance (n : Nat) (x0 : Int32) (x1 : Int32) (σ : tw_Sg) : Option ((Int32 × tw_Sg) ⊕ String) :=
tw_bx (tw_P_X11_checkedSpot x0 x1 σ) (fun r1 =>
tw_lt r1 (fun (v2 : Int32) =>
tw_bd (tw_P_X8_distancesFrom n (σ 1 10) σ) (fun r3 =>
tw_ck (decide (r3.1 = 136)) (
tw_bd (tw_P_X7_get 136 v2 r3.2) (fun r5 =>
some (Sum.inl (r5, r3.2)))))))
theorem tw_y_X11_distance : tw_My yX11_distance cX11_distance 4 (some .int) 2 := ⟨List.mem_of_getElem? tw_w1144, List.mem_of_getElem? tw_w36, by decide +kernel, by decide +kernel, by decide +kernel⟩
theorem tw_v_X11_distance : tw_Mv yX11_distance "TreasureWalk" := ⟨List.mem_of_getElem? tw_w1142, List.mem_of_getElem? tw_w1143, rfl⟩
set_option maxRecDepth 100000 in
set_option maxHeartbeats 4000000 in
theorem tw_b_X11_distance {l : Launch} {B : Nat} {D : tw_G} {C : Nat → ClassId} {S : Nat → Nat} {n : Nat} {x0 : Int32} {x1 : Int32} {σ : tw_Sg}  (z : tw_Z) (res : (Int32 × tw_Sg) ⊕ String) (el : tw_zl z = l) (eB : tw_zB z = B) (eD : tw_zD z = D) (eC : tw_zC z = C) (eS : tw_zS z = S) (hfr : (tw_zR z).frames = 7) (hlo : (tw_zR z).locals = 112) (hcs : tw_zcells z ≤ (tw_zR z).cells ∧ tw_zslots z ≤ (tw_zR z).slots) (X : tw_X z cX11_distance "TreasureWalk" 4) (hret : (tw_zmeth z).sig.returnType = (some .int)) (hQ : tw_RoX z (fun r => (some (.int r.1), r.2)) res) (hT : ∀ x, res = .inr x → tw_To z σ x) : tw_Rf z res (tw_P_X11_distance n x0 x1 σ) σ 0 (lv_args 0 [.ref (B + 0), .int x0, .int x1]) [] := by
  subst el eB eD eC eS
  show tw_Rf z res _ σ 0 [(0, .ref (tw_zB z + 0)), (1, .int x0), (2, .int x1)] []
  unfold tw_P_X11_distance
  refine r_aload_n X dX11_distance_0 rfl 0 rfl ?_
  refine r_iload_n X dX11_distance_1 rfl 1 rfl ?_
  refine r_iload_n X dX11_distance_2 rfl 2 rfl ?_
  refine r_bx (fun r1 hr1 => ?_) (fun r1 hr1 => tw_cx_X11_checkedSpot X dX11_distance_3 _ tw_w1042  hr1 (tw_le hfr rfl) (tw_le hlo rfl) (Nat.le_of_ble_eq_true rfl) trivial hT)
  refine tw_c_X11_checkedSpot X dX11_distance_3 _ tw_w1042  hr1 (tw_le hfr rfl) (tw_le hlo rfl) hcs (Nat.le_of_ble_eq_true rfl) trivial ?_
  refine r_istore_n X dX11_distance_6 rfl (by decide) (LL := fun v2 => [(3, .int v2), (0, .ref (tw_zB z + 0)), (1, .int x0), (2, .int x1)]) (fun _ => rfl) (fun v2 => ?_)
  refine r_aload_n X dX11_distance_7 rfl 1 rfl ?_
  refine tw_g11_4 (k := 0) (v := .ref (tw_zB z + 134)) X dX11_distance_8 _ tw_w435 tw_kc0 rfl ?_
  refine r_aload_n X dX11_distance_11 rfl 1 rfl ?_
  refine tw_g11_0 (k := 0) (v := .ref (tw_zB z + 1)) X dX11_distance_12 _ tw_w431 tw_kc0 rfl ?_
  refine tw_g2_10N (k := 1) (v := .int (σ 1 10)) X dX11_distance_15 _ tw_w197 tw_kc1 rfl ?_
  refine r_bd (fun r3 hr3 => ?_)
  refine tw_c_X8_distancesFrom X dX11_distance_18 _ tw_w1145  hr3 (tw_le hfr rfl) (tw_le hlo rfl) hcs (Nat.le_of_ble_eq_true rfl) trivial ?_
  refine r_ck (fun h4 => ?_)
  rw [(of_decide_eq_true h4 : r3.1 = 136)]
  refine r_iload_n X dX11_distance_21 rfl 0 rfl ?_
  refine r_bd (fun r5 hr5 => ?_)
  refine tw_c_X7_get X dX11_distance_22 _ tw_w1084 tw_kc136 hr5 (tw_le hfr rfl) (tw_le hlo rfl) hcs (Nat.le_of_ble_eq_true rfl) trivial ?_
  exact r_iretX X dX11_distance_25 hret hQ rfl
theorem tw_m_X11_distance {l : Launch} {B : Nat} {D : tw_G} {C : Nat → ClassId} {S : Nat → Nat} {n : Nat} {x0 : Int32} {x1 : Int32} {σ : tw_Sg}  {r : Int32 × tw_Sg} (h : tw_P_X11_distance n x0 x1 σ = some (.inl r)) : tw_Met l B D C S yX11_distance cX11_distance 4 (some .int) ({ frames := 7, cells := 0, slots := 0, locals := 112 } : Room) [.ref (B + 0), .int x0, .int x1] σ (some (.int r.1)) r.2 := tw_metOfR (rm := ({ frames := 7, cells := 0, slots := 0, locals := 112 } : Room)) (tw_P_X11_distance n x0 x1 σ) r h (fun r => (some (.int r.1), r.2)) (by decide +kernel) (Nat.le_of_ble_eq_true rfl) (fun z res el eB eD eC eS hfr hlo hcs X hret hQ hT => tw_b_X11_distance  z res el eB eD eC eS hfr hlo hcs X hret hQ hT)
theorem tw_mx_X11_distance {l : Launch} {B : Nat} {D : tw_G} {C : Nat → ClassId} {S : Nat → Nat} {n : Nat} {x0 : Int32} {x1 : Int32} {σ : tw_Sg}  (hst : l.stackTraces = false) {x : String} (h : tw_P_X11_distance n x0 x1 σ = some (.inr x)) : tw_MetX l B D C S yX11_distance cX11_distance 4 (some .int) ({ frames := 7, cells := 1, slots := 6, locals := 112 } : Room) [.ref (B + 0), .int x0, .int x1] σ x := tw_metOfX (rm := ({ frames := 7, cells := 0, slots := 0, locals := 112 } : Room)) hst (tw_P_X11_distance n x0 x1 σ) x h (fun r => (some (.int r.1), r.2)) (by decide +kernel) (Nat.le_of_ble_eq_true rfl) ⟨by decide, by decide⟩ (fun z res el eB eD eC eS hfr hlo hcs X hret hQ hT => tw_b_X11_distance  z res el eB eD eC eS hfr hlo hcs X hret hQ hT)
def tw_P_X11_part (n : Nat) (x0 : Int32) (x1 : Int32) (σ : tw_Sg) : Option ((Int32 × tw_Sg) ⊕ String) :=
tw_bx (tw_P_X11_checkedSpot x0 x1 σ) (fun r1 =>
tw_bd (tw_P_X8_partSize n r1 σ) (fun r2 =>
some (Sum.inl (r2.1, r2.2))))
theorem tw_y_X11_part : tw_My yX11_part cX11_part 3 (some .int) 2 := ⟨List.mem_of_getElem? tw_w1172, List.mem_of_getElem? tw_w36, by decide +kernel, by decide +kernel, by decide +kernel⟩
theorem tw_v_X11_part : tw_Mv yX11_part "TreasureWalk" := ⟨List.mem_of_getElem? tw_w1170, List.mem_of_getElem? tw_w1171, rfl⟩
set_option maxRecDepth 100000 in
set_option maxHeartbeats 4000000 in
theorem tw_b_X11_part {l : Launch} {B : Nat} {D : tw_G} {C : Nat → ClassId} {S : Nat → Nat} {n : Nat} {x0 : Int32} {x1 : Int32} {σ : tw_Sg}  (z : tw_Z) (res : (Int32 × tw_Sg) ⊕ String) (el : tw_zl z = l) (eB : tw_zB z = B) (eD : tw_zD z = D) (eC : tw_zC z = C) (eS : tw_zS z = S) (hfr : (tw_zR z).frames = 7) (hlo : (tw_zR z).locals = 144) (hcs : tw_zcells z ≤ (tw_zR z).cells ∧ tw_zslots z ≤ (tw_zR z).slots) (X : tw_X z cX11_part "TreasureWalk" 3) (hret : (tw_zmeth z).sig.returnType = (some .int)) (hQ : tw_RoX z (fun r => (some (.int r.1), r.2)) res) (hT : ∀ x, res = .inr x → tw_To z σ x) : tw_Rf z res (tw_P_X11_part n x0 x1 σ) σ 0 (lv_args 0 [.ref (B + 0), .int x0, .int x1]) [] := by
  subst el eB eD eC eS
  show tw_Rf z res _ σ 0 [(0, .ref (tw_zB z + 0)), (1, .int x0), (2, .int x1)] []
  unfold tw_P_X11_part
  refine r_aload_n X dX11_part_0 rfl 0 rfl ?_
  refine tw_g11_4 (k := 0) (v := .ref (tw_zB z + 134)) X dX11_part_1 _ tw_w435 tw_kc0 rfl ?_
  refine r_aload_n X dX11_part_4 rfl 0 rfl ?_
  refine r_iload_n X dX11_part_5 rfl 1 rfl ?_
  refine r_iload_n X dX11_part_6 rfl 2 rfl ?_
  refine r_bx (fun r1 hr1 => ?_) (fun r1 hr1 => tw_cx_X11_checkedSpot X dX11_part_7 _ tw_w1042  hr1 (tw_le hfr rfl) (tw_le hlo rfl) (Nat.le_of_ble_eq_true rfl) trivial hT)
  refine tw_c_X11_checkedSpot X dX11_part_7 _ tw_w1042  hr1 (tw_le hfr rfl) (tw_le hlo rfl) hcs (Nat.le_of_ble_eq_true rfl) trivial ?_
  refine r_bd (fun r2 hr2 => ?_)
  refine tw_c_X8_partSize X dX11_part_10 _ tw_w1173  hr2 (tw_le hfr rfl) (tw_le hlo rfl) hcs (Nat.le_of_ble_eq_true rfl) trivial ?_
  exact r_iretX X dX11_part_13 hret hQ rfl
theorem tw_m_X11_part {l : Launch} {B : Nat} {D : tw_G} {C : Nat → ClassId} {S : Nat → Nat} {n : Nat} {x0 : Int32} {x1 : Int32} {σ : tw_Sg}  {r : Int32 × tw_Sg} (h : tw_P_X11_part n x0 x1 σ = some (.inl r)) : tw_Met l B D C S yX11_part cX11_part 3 (some .int) ({ frames := 7, cells := 0, slots := 0, locals := 144 } : Room) [.ref (B + 0), .int x0, .int x1] σ (some (.int r.1)) r.2 := tw_metOfR (rm := ({ frames := 7, cells := 0, slots := 0, locals := 144 } : Room)) (tw_P_X11_part n x0 x1 σ) r h (fun r => (some (.int r.1), r.2)) (by decide +kernel) (Nat.le_of_ble_eq_true rfl) (fun z res el eB eD eC eS hfr hlo hcs X hret hQ hT => tw_b_X11_part  z res el eB eD eC eS hfr hlo hcs X hret hQ hT)
theorem tw_mx_X11_part {l : Launch} {B : Nat} {D : tw_G} {C : Nat → ClassId} {S : Nat → Nat} {n : Nat} {x0 : Int32} {x1 : Int32} {σ : tw_Sg}  (hst : l.stackTraces = false) {x : String} (h : tw_P_X11_part n x0 x1 σ = some (.inr x)) : tw_MetX l B D C S yX11_part cX11_part 3 (some .int) ({ frames := 7, cells := 1, slots := 6, locals := 144 } : Room) [.ref (B + 0), .int x0, .int x1] σ x := tw_metOfX (rm := ({ frames := 7, cells := 0, slots := 0, locals := 144 } : Room)) hst (tw_P_X11_part n x0 x1 σ) x h (fun r => (some (.int r.1), r.2)) (by decide +kernel) (Nat.le_of_ble_eq_true rfl) ⟨by decide, by decide⟩ (fun z res el eB eD eC eS hfr hlo hcs X hret hQ hT => tw_b_X11_part  z res el eB eD eC eS hfr hlo hcs X hret hQ hT)
def tw_P_X11_chestIsLeft (n : Nat)  (σ : tw_Sg) : Option (Int32 × tw_Sg) :=
tw_jn (fun (a1 : Int32 × tw_Sg) =>
tw_ck (tw_01 a1.1) (some (a1.1, a1.2))) (fun (j2 : (Int32 × tw_Sg) → Option (Int32 × tw_Sg)) =>
tw_jn (fun (a3 : tw_Sg) =>
j2 ((0 : Int32), a3)) (fun (j4 : (tw_Sg) → Option (Int32 × tw_Sg)) =>
if ¬ (σ 1 12) = (1 : Int32) then (j4 σ)
else (tw_bd (tw_P_X8_left n σ) (fun r5 =>
tw_ck (decide (r5.1 = 140)) (
tw_bd (tw_P_X0_has 140 (r5.2 1 13) r5.2) (fun r7 =>
if r7 = 0 then (j4 r5.2)
else (j2 ((1 : Int32), r5.2))))))))
theorem tw_y_X11_chestIsLeft : tw_My yX11_chestIsLeft cX11_chestIsLeft 1 (some .boolean) 0 := ⟨List.mem_of_getElem? tw_w1623, List.mem_of_getElem? tw_w36, by decide +kernel, by decide +kernel, by decide +kernel⟩
theorem tw_v_X11_chestIsLeft : tw_Mv yX11_chestIsLeft "TreasureWalk" := ⟨List.mem_of_getElem? tw_w1621, List.mem_of_getElem? tw_w1622, rfl⟩
set_option maxRecDepth 100000 in
set_option maxHeartbeats 4000000 in
theorem tw_m_X11_chestIsLeft {l : Launch} {B : Nat} {D : tw_G} {C : Nat → ClassId} {S : Nat → Nat} {n : Nat}  {σ : tw_Sg}  {r : Int32 × tw_Sg} (h : tw_P_X11_chestIsLeft n σ = some r) : tw_Met l B D C S yX11_chestIsLeft cX11_chestIsLeft 1 (some .boolean) ({ frames := 4, cells := 0, slots := 0, locals := 122 } : Room) [.ref (B + 0)] σ (some (.int r.1)) r.2 := by
  refine tw_metOfP (tw_P_X11_chestIsLeft n σ) r h (fun r => (some (.int r.1), r.2)) (by decide +kernel) (Nat.le_of_ble_eq_true rfl) ⟨rfl, rfl⟩ ?_
  intro z el eB eD eC eS hfr hlo hcs X hret hQ
  subst el eB eD eC eS
  have X : tw_X z cX11_chestIsLeft "TreasureWalk" 1 := X
  show tw_Rf z r _ σ 0 [(0, .ref (tw_zB z + 0))] []
  unfold tw_P_X11_chestIsLeft
  refine r_aload_n X dX11_chestIsLeft_0 rfl 0 rfl ?_
  refine tw_g11_0 (k := 0) (v := .ref (tw_zB z + 1)) X dX11_chestIsLeft_1 _ tw_w431 tw_kc0 rfl ?_
  refine tw_g2_12N (k := 1) (v := .int (σ 1 12)) X dX11_chestIsLeft_4 _ tw_w203 tw_kc1 rfl ?_
  refine r_iconst X dX11_chestIsLeft_7 (v := (1 : Int32)) (by decide) ?_
  refine r_jn (α := Int32 × tw_Sg) (σJ := fun a1 => a1.2) (pcJ := 36) (LJ := fun a1 => []) (stJ := fun a1 => [.int a1.1]) (ok := fun a1 => True) (fun a1 hoka1 => ?_) (fun j2 hj2 => ?_)
  ·
    exact r_zret X dX11_chestIsLeft_36 hret hQ rfl
  refine r_jn (α := tw_Sg) (σJ := fun a3 => a3) (pcJ := 35) (LJ := fun a3 => []) (stJ := fun a3 => []) (ok := fun a3 => True) (fun a3 hoka3 => ?_) (fun j4 hj4 => ?_)
  ·
    refine r_iconst X dX11_chestIsLeft_35 (v := (0 : Int32)) (by decide) ?_
    exact hj2 ((0 : Int32), a3) trivial
  refine r_icmp_ne X dX11_chestIsLeft_8 (tgt := 35) (by decide) ?_ ?_
  ·
    exact tw_Rf.sub [] rfl (hj4 σ trivial)
  ·
    refine r_aload_n X dX11_chestIsLeft_11 rfl 0 rfl ?_
    refine tw_g11_4 (k := 0) (v := .ref (tw_zB z + 134)) X dX11_chestIsLeft_12 _ tw_w435 tw_kc0 rfl ?_
    refine r_bd (fun r5 hr5 => ?_)
    refine tw_c_X8_left X dX11_chestIsLeft_15 _ tw_w1215  hr5 (tw_le hfr rfl) (tw_le hlo rfl) hcs (Nat.le_of_ble_eq_true rfl) trivial ?_
    refine r_ck (fun h6 => ?_)
    rw [(of_decide_eq_true h6 : r5.1 = 140)]
    refine r_aload_n X dX11_chestIsLeft_18 rfl 0 rfl ?_
    refine tw_g11_0 (k := 0) (v := .ref (tw_zB z + 1)) X dX11_chestIsLeft_19 _ tw_w431 tw_kc0 rfl ?_
    refine tw_g2_13N (k := 1) (v := .int (r5.2 1 13)) X dX11_chestIsLeft_22 _ tw_w205 tw_kc1 rfl ?_
    refine r_bd (fun r7 hr7 => ?_)
    refine tw_c_X0_has X dX11_chestIsLeft_25 _ tw_w495 tw_kc140 hr7 (tw_le hfr rfl) (tw_le hlo rfl) hcs (Nat.le_of_ble_eq_true rfl) trivial ?_
    refine r_if_eq X dX11_chestIsLeft_28 (tgt := 35) (by decide) ?_ ?_
    ·
      exact tw_Rf.sub [] rfl (hj4 r5.2 trivial)
    ·
      refine r_iconst X dX11_chestIsLeft_31 (v := (1 : Int32)) (by decide) ?_
      refine r_goto X dX11_chestIsLeft_32 (tgt := 36) (by decide) ?_
      exact tw_Rf.sub [] rfl (hj2 ((1 : Int32), r5.2) trivial)
def tw_P_X11_moveTo (n : Nat) (x0 : Int32) (x1 : Int32) (σ : tw_Sg) : Option ((Int32 × tw_Sg) ⊕ String) :=
tw_bx (tw_P_X11_checkedSpot x0 x1 σ) (fun r1 =>
tw_lt r1 (fun (v2 : Int32) =>
tw_bd (tw_P_X8_distancesFrom n (σ 1 10) σ) (fun r3 =>
tw_ck (decide (r3.1 = 136)) (
tw_bd (tw_P_X7_get 136 v2 r3.2) (fun r5 =>
tw_lt r5 (fun (v6 : Int32) =>
if 0 ≤ v6 then (tw_bd (tw_P_X4_keep 1 r3.2) (fun r7 =>
tw_lt (tw_up r7 1 10 v2) (fun (σ8 : tw_Sg) =>
tw_lt (tw_up σ8 1 11 ((σ8 1 11) + v6)) (fun (σ9 : tw_Sg) =>
some (Sum.inl (v6, σ9))))))
else (some (Sum.inl ((-1 : Int32), r3.2)))))))))
theorem tw_y_X11_moveTo : tw_My yX11_moveTo cX11_moveTo 5 (some .int) 2 := ⟨List.mem_of_getElem? tw_w1206, List.mem_of_getElem? tw_w36, by decide +kernel, by decide +kernel, by decide +kernel⟩
theorem tw_v_X11_moveTo : tw_Mv yX11_moveTo "TreasureWalk" := ⟨List.mem_of_getElem? tw_w1204, List.mem_of_getElem? tw_w1205, rfl⟩
set_option maxRecDepth 100000 in
set_option maxHeartbeats 4000000 in
theorem tw_b_X11_moveTo {l : Launch} {B : Nat} {D : tw_G} {C : Nat → ClassId} {S : Nat → Nat} {n : Nat} {x0 : Int32} {x1 : Int32} {σ : tw_Sg}  (z : tw_Z) (res : (Int32 × tw_Sg) ⊕ String) (el : tw_zl z = l) (eB : tw_zB z = B) (eD : tw_zD z = D) (eC : tw_zC z = C) (eS : tw_zS z = S) (hfr : (tw_zR z).frames = 7) (hlo : (tw_zR z).locals = 146) (hcs : tw_zcells z ≤ (tw_zR z).cells ∧ tw_zslots z ≤ (tw_zR z).slots) (X : tw_X z cX11_moveTo "TreasureWalk" 5) (hret : (tw_zmeth z).sig.returnType = (some .int)) (hQ : tw_RoX z (fun r => (some (.int r.1), r.2)) res) (hT : ∀ x, res = .inr x → tw_To z σ x) : tw_Rf z res (tw_P_X11_moveTo n x0 x1 σ) σ 0 (lv_args 0 [.ref (B + 0), .int x0, .int x1]) [] := by
  subst el eB eD eC eS
  show tw_Rf z res _ σ 0 [(0, .ref (tw_zB z + 0)), (1, .int x0), (2, .int x1)] []
  unfold tw_P_X11_moveTo
  refine r_aload_n X dX11_moveTo_0 rfl 0 rfl ?_
  refine r_iload_n X dX11_moveTo_1 rfl 1 rfl ?_
  refine r_iload_n X dX11_moveTo_2 rfl 2 rfl ?_
  refine r_bx (fun r1 hr1 => ?_) (fun r1 hr1 => tw_cx_X11_checkedSpot X dX11_moveTo_3 _ tw_w1042  hr1 (tw_le hfr rfl) (tw_le hlo rfl) (Nat.le_of_ble_eq_true rfl) trivial hT)
  refine tw_c_X11_checkedSpot X dX11_moveTo_3 _ tw_w1042  hr1 (tw_le hfr rfl) (tw_le hlo rfl) hcs (Nat.le_of_ble_eq_true rfl) trivial ?_
  refine r_istore_n X dX11_moveTo_6 rfl (by decide) (LL := fun v2 => [(3, .int v2), (0, .ref (tw_zB z + 0)), (1, .int x0), (2, .int x1)]) (fun _ => rfl) (fun v2 => ?_)
  refine r_aload_n X dX11_moveTo_7 rfl 1 rfl ?_
  refine tw_g11_4 (k := 0) (v := .ref (tw_zB z + 134)) X dX11_moveTo_8 _ tw_w435 tw_kc0 rfl ?_
  refine r_aload_n X dX11_moveTo_11 rfl 1 rfl ?_
  refine tw_g11_0 (k := 0) (v := .ref (tw_zB z + 1)) X dX11_moveTo_12 _ tw_w431 tw_kc0 rfl ?_
  refine tw_g2_10N (k := 1) (v := .int (σ 1 10)) X dX11_moveTo_15 _ tw_w197 tw_kc1 rfl ?_
  refine r_bd (fun r3 hr3 => ?_)
  refine tw_c_X8_distancesFrom X dX11_moveTo_18 _ tw_w1145  hr3 (tw_le hfr rfl) (tw_le hlo rfl) hcs (Nat.le_of_ble_eq_true rfl) trivial ?_
  refine r_ck (fun h4 => ?_)
  rw [(of_decide_eq_true h4 : r3.1 = 136)]
  refine r_iload_n X dX11_moveTo_21 rfl 0 rfl ?_
  refine r_bd (fun r5 hr5 => ?_)
  refine tw_c_X7_get X dX11_moveTo_22 _ tw_w1084 tw_kc136 hr5 (tw_le hfr rfl) (tw_le hlo rfl) hcs (Nat.le_of_ble_eq_true rfl) trivial ?_
  refine r_istore X dX11_moveTo_25 (by decide) (LL := fun v6 => [(4, .int v6), (3, .int v2), (0, .ref (tw_zB z + 0)), (1, .int x0), (2, .int x1)]) (fun _ => rfl) (fun v6 => ?_)
  refine r_iload X dX11_moveTo_27 0 rfl ?_
  refine r_if_ge X dX11_moveTo_29 (tgt := 34) (by decide) ?_ ?_
  ·
    refine r_aload_n X dX11_moveTo_34 rfl 2 rfl ?_
    refine tw_g11_1 (k := 0) (v := .ref (tw_zB z + 142)) X dX11_moveTo_35 _ tw_w432 tw_kc0 rfl ?_
    refine r_aload_n X dX11_moveTo_38 rfl 2 rfl ?_
    refine tw_g11_0 (k := 0) (v := .ref (tw_zB z + 1)) X dX11_moveTo_39 _ tw_w431 tw_kc0 rfl ?_
    refine r_bd (fun r7 hr7 => ?_)
    refine tw_c_X4_keep X dX11_moveTo_42 _ tw_w461 tw_kc1 hr7 (tw_le hfr rfl) (tw_le hlo rfl) hcs (Nat.le_of_ble_eq_true rfl) trivial ?_
    refine r_aload_n X dX11_moveTo_45 rfl 2 rfl ?_
    refine tw_g11_0 (k := 0) (v := .ref (tw_zB z + 1)) X dX11_moveTo_46 _ tw_w431 tw_kc0 rfl ?_
    refine r_iload_n X dX11_moveTo_49 rfl 1 rfl ?_
    refine tw_s2_10N (k := 1) X dX11_moveTo_50 _ tw_w197 tw_kc1 (fun σ8 => ?_)
    refine r_aload_n X dX11_moveTo_53 rfl 2 rfl ?_
    refine tw_g11_0 (k := 0) (v := .ref (tw_zB z + 1)) X dX11_moveTo_54 _ tw_w431 tw_kc0 rfl ?_
    refine r_dup X dX11_moveTo_57 rfl ?_
    refine tw_g2_11N (k := 1) (v := .int (σ8 1 11)) X dX11_moveTo_58 _ tw_w201 tw_kc1 rfl ?_
    refine r_iload X dX11_moveTo_61 0 rfl ?_
    refine r_iadd X dX11_moveTo_63 ?_
    refine tw_s2_11N (k := 1) X dX11_moveTo_64 _ tw_w201 tw_kc1 (fun σ9 => ?_)
    refine r_iload X dX11_moveTo_67 0 rfl ?_
    exact r_iretX X dX11_moveTo_69 hret hQ rfl
  ·
    refine r_iconst X dX11_moveTo_32 (v := (-1 : Int32)) (by decide) ?_
    exact r_iretX X dX11_moveTo_33 hret hQ rfl
theorem tw_m_X11_moveTo {l : Launch} {B : Nat} {D : tw_G} {C : Nat → ClassId} {S : Nat → Nat} {n : Nat} {x0 : Int32} {x1 : Int32} {σ : tw_Sg}  {r : Int32 × tw_Sg} (h : tw_P_X11_moveTo n x0 x1 σ = some (.inl r)) : tw_Met l B D C S yX11_moveTo cX11_moveTo 5 (some .int) ({ frames := 7, cells := 0, slots := 0, locals := 146 } : Room) [.ref (B + 0), .int x0, .int x1] σ (some (.int r.1)) r.2 := tw_metOfR (rm := ({ frames := 7, cells := 0, slots := 0, locals := 146 } : Room)) (tw_P_X11_moveTo n x0 x1 σ) r h (fun r => (some (.int r.1), r.2)) (by decide +kernel) (Nat.le_of_ble_eq_true rfl) (fun z res el eB eD eC eS hfr hlo hcs X hret hQ hT => tw_b_X11_moveTo  z res el eB eD eC eS hfr hlo hcs X hret hQ hT)
theorem tw_mx_X11_moveTo {l : Launch} {B : Nat} {D : tw_G} {C : Nat → ClassId} {S : Nat → Nat} {n : Nat} {x0 : Int32} {x1 : Int32} {σ : tw_Sg}  (hst : l.stackTraces = false) {x : String} (h : tw_P_X11_moveTo n x0 x1 σ = some (.inr x)) : tw_MetX l B D C S yX11_moveTo cX11_moveTo 5 (some .int) ({ frames := 7, cells := 1, slots := 6, locals := 146 } : Room) [.ref (B + 0), .int x0, .int x1] σ x := tw_metOfX (rm := ({ frames := 7, cells := 0, slots := 0, locals := 146 } : Room)) hst (tw_P_X11_moveTo n x0 x1 σ) x h (fun r => (some (.int r.1), r.2)) (by decide +kernel) (Nat.le_of_ble_eq_true rfl) ⟨by decide, by decide⟩ (fun z res el eB eD eC eS hfr hlo hcs X hret hQ hT => tw_b_X11_moveTo  z res el eB eD eC eS hfr hlo hcs X hret hQ hT)
def tw_P_X11_dig  (σ : tw_Sg) : Option (Int32 × tw_Sg) :=
tw_bd (tw_P_X4_keep 1 σ) (fun r1 =>
tw_bd (tw_P_X0_has 4 (r1 1 10) r1) (fun r2 =>
if r2 = 0 then (tw_bd (tw_P_X0_add 4 (r1 1 10) r1) (fun r3 =>
tw_jn (fun (a4 : Unit) =>
some ((1 : Int32), r3)) (fun (j5 : (Unit) → Option (Int32 × tw_Sg)) =>
if ¬ (r3 1 12) = (1 : Int32) then (j5 ())
else (if (r3 1 13) = (r3 1 10) then (tw_lt (tw_up r3 1 12 (2 : Int32)) (fun (σ6 : tw_Sg) =>
some ((2 : Int32), σ6)))
else (j5 ())))))
else (some ((0 : Int32), r1))))
theorem tw_y_X11_dig : tw_My yX11_dig cX11_dig 1 (some .int) 0 := ⟨List.mem_of_getElem? tw_w460, List.mem_of_getElem? tw_w36, by decide +kernel, by decide +kernel, by decide +kernel⟩
theorem tw_v_X11_dig : tw_Mv yX11_dig "TreasureWalk" := ⟨List.mem_of_getElem? tw_w458, List.mem_of_getElem? tw_w459, rfl⟩
set_option maxRecDepth 100000 in
set_option maxHeartbeats 4000000 in
theorem tw_m_X11_dig {l : Launch} {B : Nat} {D : tw_G} {C : Nat → ClassId} {S : Nat → Nat}  {σ : tw_Sg}  {r : Int32 × tw_Sg} (h : tw_P_X11_dig σ = some r) : tw_Met l B D C S yX11_dig cX11_dig 1 (some .int) ({ frames := 5, cells := 0, slots := 0, locals := 146 } : Room) [.ref (B + 0)] σ (some (.int r.1)) r.2 := by
  refine tw_metOfP (tw_P_X11_dig σ) r h (fun r => (some (.int r.1), r.2)) (by decide +kernel) (Nat.le_of_ble_eq_true rfl) ⟨rfl, rfl⟩ ?_
  intro z el eB eD eC eS hfr hlo hcs X hret hQ
  subst el eB eD eC eS
  have X : tw_X z cX11_dig "TreasureWalk" 1 := X
  show tw_Rf z r _ σ 0 [(0, .ref (tw_zB z + 0))] []
  unfold tw_P_X11_dig
  refine r_aload_n X dX11_dig_0 rfl 0 rfl ?_
  refine tw_g11_1 (k := 0) (v := .ref (tw_zB z + 142)) X dX11_dig_1 _ tw_w432 tw_kc0 rfl ?_
  refine r_aload_n X dX11_dig_4 rfl 0 rfl ?_
  refine tw_g11_0 (k := 0) (v := .ref (tw_zB z + 1)) X dX11_dig_5 _ tw_w431 tw_kc0 rfl ?_
  refine r_bd (fun r1 hr1 => ?_)
  refine tw_c_X4_keep X dX11_dig_8 _ tw_w461 tw_kc1 hr1 (tw_le hfr rfl) (tw_le hlo rfl) hcs (Nat.le_of_ble_eq_true rfl) trivial ?_
  refine r_aload_n X dX11_dig_11 rfl 0 rfl ?_
  refine tw_g11_0 (k := 0) (v := .ref (tw_zB z + 1)) X dX11_dig_12 _ tw_w431 tw_kc0 rfl ?_
  refine tw_g2_3N (k := 1) (v := .ref (tw_zB z + 4)) X dX11_dig_15 _ tw_w177 tw_kc1 rfl ?_
  refine r_aload_n X dX11_dig_18 rfl 0 rfl ?_
  refine tw_g11_0 (k := 0) (v := .ref (tw_zB z + 1)) X dX11_dig_19 _ tw_w431 tw_kc0 rfl ?_
  refine tw_g2_10N (k := 1) (v := .int (r1 1 10)) X dX11_dig_22 _ tw_w197 tw_kc1 rfl ?_
  refine r_bd (fun r2 hr2 => ?_)
  refine tw_c_X0_has X dX11_dig_25 _ tw_w495 tw_kc4 hr2 (tw_le hfr rfl) (tw_le hlo rfl) hcs (Nat.le_of_ble_eq_true rfl) trivial ?_
  refine r_if_eq X dX11_dig_28 (tgt := 33) (by decide) ?_ ?_
  ·
    refine r_aload_n X dX11_dig_33 rfl 0 rfl ?_
    refine tw_g11_0 (k := 0) (v := .ref (tw_zB z + 1)) X dX11_dig_34 _ tw_w431 tw_kc0 rfl ?_
    refine tw_g2_3N (k := 1) (v := .ref (tw_zB z + 4)) X dX11_dig_37 _ tw_w177 tw_kc1 rfl ?_
    refine r_aload_n X dX11_dig_40 rfl 0 rfl ?_
    refine tw_g11_0 (k := 0) (v := .ref (tw_zB z + 1)) X dX11_dig_41 _ tw_w431 tw_kc0 rfl ?_
    refine tw_g2_10N (k := 1) (v := .int (r1 1 10)) X dX11_dig_44 _ tw_w197 tw_kc1 rfl ?_
    refine r_bd (fun r3 hr3 => ?_)
    refine tw_c_X0_add X dX11_dig_47 _ tw_w499 tw_kc4 hr3 (tw_le hfr rfl) (tw_le hlo rfl) hcs (Nat.le_of_ble_eq_true rfl) trivial ?_
    refine r_aload_n X dX11_dig_50 rfl 0 rfl ?_
    refine tw_g11_0 (k := 0) (v := .ref (tw_zB z + 1)) X dX11_dig_51 _ tw_w431 tw_kc0 rfl ?_
    refine tw_g2_12N (k := 1) (v := .int (r3 1 12)) X dX11_dig_54 _ tw_w203 tw_kc1 rfl ?_
    refine r_iconst X dX11_dig_57 (v := (1 : Int32)) (by decide) ?_
    refine r_jn (α := Unit) (σJ := fun a4 => r3) (pcJ := 78) (LJ := fun a4 => []) (stJ := fun a4 => []) (ok := fun a4 => True) (fun a4 hoka4 => ?_) (fun j5 hj5 => ?_)
    ·
      refine r_iconst X dX11_dig_78 (v := (1 : Int32)) (by decide) ?_
      exact r_iret X dX11_dig_79 hret hQ rfl
    refine r_icmp_ne X dX11_dig_58 (tgt := 78) (by decide) ?_ ?_
    ·
      exact tw_Rf.sub [] rfl (hj5 () trivial)
    ·
      refine r_aload_n X dX11_dig_61 rfl 0 rfl ?_
      refine tw_g11_0 (k := 0) (v := .ref (tw_zB z + 1)) X dX11_dig_62 _ tw_w431 tw_kc0 rfl ?_
      refine tw_g2_13N (k := 1) (v := .int (r3 1 13)) X dX11_dig_65 _ tw_w205 tw_kc1 rfl ?_
      refine r_aload_n X dX11_dig_68 rfl 0 rfl ?_
      refine tw_g11_0 (k := 0) (v := .ref (tw_zB z + 1)) X dX11_dig_69 _ tw_w431 tw_kc0 rfl ?_
      refine tw_g2_10N (k := 1) (v := .int (r3 1 10)) X dX11_dig_72 _ tw_w197 tw_kc1 rfl ?_
      refine r_icmp_eq X dX11_dig_75 (tgt := 80) (by decide) ?_ ?_
      ·
        refine r_aload_n X dX11_dig_80 rfl 0 rfl ?_
        refine tw_g11_0 (k := 0) (v := .ref (tw_zB z + 1)) X dX11_dig_81 _ tw_w431 tw_kc0 rfl ?_
        refine r_iconst X dX11_dig_84 (v := (2 : Int32)) (by decide) ?_
        refine tw_s2_12N (k := 1) X dX11_dig_85 _ tw_w203 tw_kc1 (fun σ6 => ?_)
        refine r_iconst X dX11_dig_88 (v := (2 : Int32)) (by decide) ?_
        exact r_iret X dX11_dig_89 hret hQ rfl
      ·
        exact tw_Rf.sub [] rfl (hj5 () trivial)
  ·
    refine r_iconst X dX11_dig_31 (v := (0 : Int32)) (by decide) ?_
    exact r_iret X dX11_dig_32 hret hQ rfl
def tw_P_X11_use (n : Nat) (x0 : Int32) (x1 : Int32) (σ : tw_Sg) : Option ((Int32 × tw_Sg) ⊕ String) :=
tw_bx (tw_P_X11_checkClue x0 σ) (fun r1 =>
tw_bd (tw_P_X4_keep 1 σ) (fun r2 =>
tw_jn (fun (a3 : Int32) =>
tw_bd (tw_P_X7_put 15 x0 a3 r2) (fun r5 =>
tw_bd (tw_P_X8_left n r5) (fun r6 =>
tw_ck (decide (r6.1 = 140)) (
tw_bd (tw_P_X0_count n 140 r6.2) (fun r8 =>
some (Sum.inl (r8, r6.2))))))) (fun (j4 : (Int32) → Option ((Int32 × tw_Sg) ⊕ String)) =>
if x1 = 0 then (j4 (0 : Int32))
else (j4 (1 : Int32)))))
theorem tw_y_X11_use : tw_My yX11_use cX11_use 3 (some .int) 2 := ⟨List.mem_of_getElem? tw_w1213, List.mem_of_getElem? tw_w36, by decide +kernel, by decide +kernel, by decide +kernel⟩
theorem tw_v_X11_use : tw_Mv yX11_use "TreasureWalk" := ⟨List.mem_of_getElem? tw_w1211, List.mem_of_getElem? tw_w1212, rfl⟩
set_option maxRecDepth 100000 in
set_option maxHeartbeats 4000000 in
theorem tw_b_X11_use {l : Launch} {B : Nat} {D : tw_G} {C : Nat → ClassId} {S : Nat → Nat} {n : Nat} {x0 : Int32} {x1 : Int32} {σ : tw_Sg}  (z : tw_Z) (res : (Int32 × tw_Sg) ⊕ String) (el : tw_zl z = l) (eB : tw_zB z = B) (eD : tw_zD z = D) (eC : tw_zC z = C) (eS : tw_zS z = S) (hfr : (tw_zR z).frames = 7) (hlo : (tw_zR z).locals = 146) (hcs : tw_zcells z ≤ (tw_zR z).cells ∧ tw_zslots z ≤ (tw_zR z).slots) (X : tw_X z cX11_use "TreasureWalk" 3) (hret : (tw_zmeth z).sig.returnType = (some .int)) (hQ : tw_RoX z (fun r => (some (.int r.1), r.2)) res) (hT : ∀ x, res = .inr x → tw_To z σ x) : tw_Rf z res (tw_P_X11_use n x0 x1 σ) σ 0 (lv_args 0 [.ref (B + 0), .int x0, .int x1]) [] := by
  subst el eB eD eC eS
  show tw_Rf z res _ σ 0 [(0, .ref (tw_zB z + 0)), (1, .int x0), (2, .int x1)] []
  unfold tw_P_X11_use
  refine r_aload_n X dX11_use_0 rfl 0 rfl ?_
  refine r_iload_n X dX11_use_1 rfl 1 rfl ?_
  refine r_bx (fun r1 hr1 => ?_) (fun r1 hr1 => tw_cx_X11_checkClue X dX11_use_2 _ tw_w1079  hr1 (tw_le hfr rfl) (tw_le hlo rfl) (Nat.le_of_ble_eq_true rfl) trivial hT)
  refine tw_c_X11_checkClue X dX11_use_2 _ tw_w1079  hr1 (tw_le hfr rfl) (tw_le hlo rfl) hcs (Nat.le_of_ble_eq_true rfl) trivial ?_
  refine r_aload_n X dX11_use_5 rfl 0 rfl ?_
  refine tw_g11_1 (k := 0) (v := .ref (tw_zB z + 142)) X dX11_use_6 _ tw_w432 tw_kc0 rfl ?_
  refine r_aload_n X dX11_use_9 rfl 0 rfl ?_
  refine tw_g11_0 (k := 0) (v := .ref (tw_zB z + 1)) X dX11_use_10 _ tw_w431 tw_kc0 rfl ?_
  refine r_bd (fun r2 hr2 => ?_)
  refine tw_c_X4_keep X dX11_use_13 _ tw_w461 tw_kc1 hr2 (tw_le hfr rfl) (tw_le hlo rfl) hcs (Nat.le_of_ble_eq_true rfl) trivial ?_
  refine r_aload_n X dX11_use_16 rfl 0 rfl ?_
  refine tw_g11_0 (k := 0) (v := .ref (tw_zB z + 1)) X dX11_use_17 _ tw_w431 tw_kc0 rfl ?_
  refine tw_g2_9N (k := 1) (v := .ref (tw_zB z + 14)) X dX11_use_20 _ tw_w195 tw_kc1 rfl ?_
  refine tw_g1_1N (k := 14) (v := .ref (tw_zB z + 15)) X dX11_use_23 _ tw_w120 tw_kc14 rfl ?_
  refine r_iload_n X dX11_use_26 rfl 1 rfl ?_
  refine r_iload_n X dX11_use_27 rfl 2 rfl ?_
  refine r_jn (α := Int32) (σJ := fun a3 => r2) (pcJ := 36) (LJ := fun a3 => [(0, .ref (tw_zB z + 0))]) (stJ := fun a3 => [.int a3, .int x0, .ref (tw_zB z + 15)]) (ok := fun a3 => True) (fun a3 hoka3 => ?_) (fun j4 hj4 => ?_)
  ·
    refine r_bd (fun r5 hr5 => ?_)
    refine tw_c_X7_put X dX11_use_36 _ tw_w1214 tw_kc15 hr5 (tw_le hfr rfl) (tw_le hlo rfl) hcs (Nat.le_of_ble_eq_true rfl) trivial ?_
    refine r_aload_n X dX11_use_39 rfl 0 rfl ?_
    refine tw_g11_4 (k := 0) (v := .ref (tw_zB z + 134)) X dX11_use_40 _ tw_w435 tw_kc0 rfl ?_
    refine r_bd (fun r6 hr6 => ?_)
    refine tw_c_X8_left X dX11_use_43 _ tw_w1215  hr6 (tw_le hfr rfl) (tw_le hlo rfl) hcs (Nat.le_of_ble_eq_true rfl) trivial ?_
    refine r_ck (fun h7 => ?_)
    rw [(of_decide_eq_true h7 : r6.1 = 140)]
    refine r_bd (fun r8 hr8 => ?_)
    refine tw_c_X0_count X dX11_use_46 _ tw_w1216 tw_kc140 hr8 (tw_le hfr rfl) (tw_le hlo rfl) hcs (Nat.le_of_ble_eq_true rfl) trivial ?_
    exact r_iretX X dX11_use_49 hret hQ rfl
  refine r_if_eq X dX11_use_28 (tgt := 35) (by decide) ?_ ?_
  ·
    refine r_iconst X dX11_use_35 (v := (0 : Int32)) (by decide) ?_
    exact tw_Rf.sub [0] rfl (hj4 (0 : Int32) trivial)
  ·
    refine r_iconst X dX11_use_31 (v := (1 : Int32)) (by decide) ?_
    refine r_goto X dX11_use_32 (tgt := 36) (by decide) ?_
    exact tw_Rf.sub [0] rfl (hj4 (1 : Int32) trivial)
theorem tw_m_X11_use {l : Launch} {B : Nat} {D : tw_G} {C : Nat → ClassId} {S : Nat → Nat} {n : Nat} {x0 : Int32} {x1 : Int32} {σ : tw_Sg}  {r : Int32 × tw_Sg} (h : tw_P_X11_use n x0 x1 σ = some (.inl r)) : tw_Met l B D C S yX11_use cX11_use 3 (some .int) ({ frames := 7, cells := 0, slots := 0, locals := 146 } : Room) [.ref (B + 0), .int x0, .int x1] σ (some (.int r.1)) r.2 := tw_metOfR (rm := ({ frames := 7, cells := 0, slots := 0, locals := 146 } : Room)) (tw_P_X11_use n x0 x1 σ) r h (fun r => (some (.int r.1), r.2)) (by decide +kernel) (Nat.le_of_ble_eq_true rfl) (fun z res el eB eD eC eS hfr hlo hcs X hret hQ hT => tw_b_X11_use  z res el eB eD eC eS hfr hlo hcs X hret hQ hT)
theorem tw_mx_X11_use {l : Launch} {B : Nat} {D : tw_G} {C : Nat → ClassId} {S : Nat → Nat} {n : Nat} {x0 : Int32} {x1 : Int32} {σ : tw_Sg}  (hst : l.stackTraces = false) {x : String} (h : tw_P_X11_use n x0 x1 σ = some (.inr x)) : tw_MetX l B D C S yX11_use cX11_use 3 (some .int) ({ frames := 7, cells := 1, slots := 6, locals := 146 } : Room) [.ref (B + 0), .int x0, .int x1] σ x := tw_metOfX (rm := ({ frames := 7, cells := 0, slots := 0, locals := 146 } : Room)) hst (tw_P_X11_use n x0 x1 σ) x h (fun r => (some (.int r.1), r.2)) (by decide +kernel) (Nat.le_of_ble_eq_true rfl) ⟨by decide, by decide⟩ (fun z res el eB eD eC eS hfr hlo hcs X hret hQ hT => tw_b_X11_use  z res el eB eD eC eS hfr hlo hcs X hret hQ hT)
def tw_P_X11_hide (n : Nat) (x0 : Int32) (σ : tw_Sg) : Option ((Int32 × tw_Sg) ⊕ String) :=
tw_jn (fun (a1 : Unit) =>
some (Sum.inr "java/lang/IllegalArgumentException")) (fun (j2 : (Unit) → Option ((Int32 × tw_Sg) ⊕ String)) =>
if x0 < 0 then (j2 ())
else (if x0 ≤ (9999 : Int32) then (tw_bd (tw_P_X4_keep 1 σ) (fun r3 =>
tw_bd (tw_P_X8_left n r3) (fun r4 =>
tw_ck (decide (r4.1 = 140)) (
tw_bd (tw_P_X0_count n 140 r4.2) (fun r6 =>
tw_lt r6 (fun (v7 : Int32) =>
tw_jn (fun (a8 : Int32) =>
tw_lt (tw_up r4.2 1 12 a8) (fun (σ10 : tw_Sg) =>
tw_jn (fun (a11 : Int32) =>
tw_lt (tw_up σ10 1 13 a11) (fun (σ13 : tw_Sg) =>
some (Sum.inl (v7, σ13)))) (fun (j12 : (Int32) → Option ((Int32 × tw_Sg) ⊕ String)) =>
if v7 ≤ 0 then (j12 (0 : Int32))
else (tw_ck (!decide (v7 = 0)) (
tw_bd (tw_P_X0_at n 140 (x0 - x0 / v7 * v7) σ10) (fun r14 =>
j12 r14)))))) (fun (j9 : (Int32) → Option ((Int32 × tw_Sg) ⊕ String)) =>
if v7 ≤ 0 then (j9 (0 : Int32))
else (j9 (1 : Int32)))))))))
else (j2 ())))
theorem tw_y_X11_hide : tw_My yX11_hide cX11_hide 4 (some .int) 1 := ⟨List.mem_of_getElem? tw_w1223, List.mem_of_getElem? tw_w36, by decide +kernel, by decide +kernel, by decide +kernel⟩
theorem tw_v_X11_hide : tw_Mv yX11_hide "TreasureWalk" := ⟨List.mem_of_getElem? tw_w1221, List.mem_of_getElem? tw_w1222, rfl⟩
set_option maxRecDepth 100000 in
set_option maxHeartbeats 4000000 in
theorem tw_b_X11_hide {l : Launch} {B : Nat} {D : tw_G} {C : Nat → ClassId} {S : Nat → Nat} {n : Nat} {x0 : Int32} {σ : tw_Sg}  (z : tw_Z) (res : (Int32 × tw_Sg) ⊕ String) (el : tw_zl z = l) (eB : tw_zB z = B) (eD : tw_zD z = D) (eC : tw_zC z = C) (eS : tw_zS z = S) (hfr : (tw_zR z).frames = 6) (hlo : (tw_zR z).locals = 146) (hcs : tw_zcells z ≤ (tw_zR z).cells ∧ tw_zslots z ≤ (tw_zR z).slots) (X : tw_X z cX11_hide "TreasureWalk" 4) (hret : (tw_zmeth z).sig.returnType = (some .int)) (hQ : tw_RoX z (fun r => (some (.int r.1), r.2)) res) (hT : ∀ x, res = .inr x → tw_To z σ x) : tw_Rf z res (tw_P_X11_hide n x0 σ) σ 0 (lv_args 0 [.ref (B + 0), .int x0]) [] := by
  subst el eB eD eC eS
  show tw_Rf z res _ σ 0 [(0, .ref (tw_zB z + 0)), (1, .int x0)] []
  unfold tw_P_X11_hide
  refine r_iload_n X dX11_hide_0 rfl 1 rfl ?_
  refine r_jn (α := Unit) (σJ := fun a1 => σ) (pcJ := 11) (LJ := fun a1 => []) (stJ := fun a1 => []) (ok := fun a1 => True) (fun a1 hoka1 => ?_) (fun j2 hj2 => ?_)
  ·
    exact tw_th0_A X dX11_hide_11 dX11_hide_14 dX11_hide_15 dX11_hide_17 dX11_hide_20 rfl tw_l_A_243 hT
  refine r_if_lt X dX11_hide_1 (tgt := 11) (by decide) ?_ ?_
  ·
    exact tw_Rf.sub [] rfl (hj2 () trivial)
  ·
    refine r_iload_n X dX11_hide_4 rfl 1 rfl ?_
    refine r_sipush X dX11_hide_5 (v := (9999 : Int32)) (by decide) ?_
    refine r_icmp_le X dX11_hide_8 (tgt := 21) (by decide) ?_ ?_
    ·
      refine r_aload_n X dX11_hide_21 rfl 0 rfl ?_
      refine tw_g11_1 (k := 0) (v := .ref (tw_zB z + 142)) X dX11_hide_22 _ tw_w432 tw_kc0 rfl ?_
      refine r_aload_n X dX11_hide_25 rfl 0 rfl ?_
      refine tw_g11_0 (k := 0) (v := .ref (tw_zB z + 1)) X dX11_hide_26 _ tw_w431 tw_kc0 rfl ?_
      refine r_bd (fun r3 hr3 => ?_)
      refine tw_c_X4_keep X dX11_hide_29 _ tw_w461 tw_kc1 hr3 (tw_le hfr rfl) (tw_le hlo rfl) hcs (Nat.le_of_ble_eq_true rfl) trivial ?_
      refine r_aload_n X dX11_hide_32 rfl 0 rfl ?_
      refine tw_g11_4 (k := 0) (v := .ref (tw_zB z + 134)) X dX11_hide_33 _ tw_w435 tw_kc0 rfl ?_
      refine r_bd (fun r4 hr4 => ?_)
      refine tw_c_X8_left X dX11_hide_36 _ tw_w1215  hr4 (tw_le hfr rfl) (tw_le hlo rfl) hcs (Nat.le_of_ble_eq_true rfl) trivial ?_
      refine r_ck (fun h5 => ?_)
      rw [(of_decide_eq_true h5 : r4.1 = 140)]
      refine r_astore_n X dX11_hide_39 rfl (by decide) (L' := [(2, .ref (tw_zB z + 140)), (0, .ref (tw_zB z + 0)), (1, .int x0)]) rfl ?_
      refine r_aload_n X dX11_hide_40 rfl 0 rfl ?_
      refine r_bd (fun r6 hr6 => ?_)
      refine tw_c_X0_count X dX11_hide_41 _ tw_w1216 tw_kc140 hr6 (tw_le hfr rfl) (tw_le hlo rfl) hcs (Nat.le_of_ble_eq_true rfl) trivial ?_
      refine r_istore_n X dX11_hide_44 rfl (by decide) (LL := fun v7 => [(3, .int v7), (2, .ref (tw_zB z + 140)), (0, .ref (tw_zB z + 0)), (1, .int x0)]) (fun _ => rfl) (fun v7 => ?_)
      refine r_aload_n X dX11_hide_45 rfl 2 rfl ?_
      refine tw_g11_0 (k := 0) (v := .ref (tw_zB z + 1)) X dX11_hide_46 _ tw_w431 tw_kc0 rfl ?_
      refine r_iload_n X dX11_hide_49 rfl 0 rfl ?_
      refine r_jn (α := Int32) (σJ := fun a8 => r4.2) (pcJ := 58) (LJ := fun a8 => [(3, .int v7), (2, .ref (tw_zB z + 140)), (0, .ref (tw_zB z + 0)), (1, .int x0)]) (stJ := fun a8 => [.int a8, .ref (tw_zB z + 1)]) (ok := fun a8 => True) (fun a8 hoka8 => ?_) (fun j9 hj9 => ?_)
      ·
        refine tw_s2_12N (k := 1) X dX11_hide_58 _ tw_w203 tw_kc1 (fun σ10 => ?_)
        refine r_aload_n X dX11_hide_61 rfl 2 rfl ?_
        refine tw_g11_0 (k := 0) (v := .ref (tw_zB z + 1)) X dX11_hide_62 _ tw_w431 tw_kc0 rfl ?_
        refine r_iload_n X dX11_hide_65 rfl 0 rfl ?_
        refine r_jn (α := Int32) (σJ := fun a11 => σ10) (pcJ := 80) (LJ := fun a11 => [(3, .int v7)]) (stJ := fun a11 => [.int a11, .ref (tw_zB z + 1)]) (ok := fun a11 => True) (fun a11 hoka11 => ?_) (fun j12 hj12 => ?_)
        ·
          refine tw_s2_13N (k := 1) X dX11_hide_80 _ tw_w205 tw_kc1 (fun σ13 => ?_)
          refine r_iload_n X dX11_hide_83 rfl 0 rfl ?_
          exact r_iretX X dX11_hide_84 hret hQ rfl
        refine r_if_le X dX11_hide_66 (tgt := 79) (by decide) ?_ ?_
        ·
          refine r_iconst X dX11_hide_79 (v := (0 : Int32)) (by decide) ?_
          exact tw_Rf.sub [0] rfl (hj12 (0 : Int32) trivial)
        ·
          refine r_aload_n X dX11_hide_69 rfl 1 rfl ?_
          refine r_iload_n X dX11_hide_70 rfl 3 rfl ?_
          refine r_iload_n X dX11_hide_71 rfl 0 rfl ?_
          refine r_irem X dX11_hide_72 ?_
          refine r_bd (fun r14 hr14 => ?_)
          refine tw_c_X0_at X dX11_hide_73 _ tw_w1225 tw_kc140 hr14 (tw_le hfr rfl) (tw_le hlo rfl) hcs (Nat.le_of_ble_eq_true rfl) trivial ?_
          refine r_goto X dX11_hide_76 (tgt := 80) (by decide) ?_
          exact tw_Rf.sub [0] rfl (hj12 r14 trivial)
      refine r_if_le X dX11_hide_50 (tgt := 57) (by decide) ?_ ?_
      ·
        refine r_iconst X dX11_hide_57 (v := (0 : Int32)) (by decide) ?_
        exact hj9 (0 : Int32) trivial
      ·
        refine r_iconst X dX11_hide_53 (v := (1 : Int32)) (by decide) ?_
        refine r_goto X dX11_hide_54 (tgt := 58) (by decide) ?_
        exact hj9 (1 : Int32) trivial
    ·
      exact tw_Rf.sub [] rfl (hj2 () trivial)
theorem tw_m_X11_hide {l : Launch} {B : Nat} {D : tw_G} {C : Nat → ClassId} {S : Nat → Nat} {n : Nat} {x0 : Int32} {σ : tw_Sg}  {r : Int32 × tw_Sg} (h : tw_P_X11_hide n x0 σ = some (.inl r)) : tw_Met l B D C S yX11_hide cX11_hide 4 (some .int) ({ frames := 6, cells := 0, slots := 0, locals := 146 } : Room) [.ref (B + 0), .int x0] σ (some (.int r.1)) r.2 := tw_metOfR (rm := ({ frames := 6, cells := 0, slots := 0, locals := 146 } : Room)) (tw_P_X11_hide n x0 σ) r h (fun r => (some (.int r.1), r.2)) (by decide +kernel) (Nat.le_of_ble_eq_true rfl) (fun z res el eB eD eC eS hfr hlo hcs X hret hQ hT => tw_b_X11_hide  z res el eB eD eC eS hfr hlo hcs X hret hQ hT)
theorem tw_mx_X11_hide {l : Launch} {B : Nat} {D : tw_G} {C : Nat → ClassId} {S : Nat → Nat} {n : Nat} {x0 : Int32} {σ : tw_Sg}  (hst : l.stackTraces = false) {x : String} (h : tw_P_X11_hide n x0 σ = some (.inr x)) : tw_MetX l B D C S yX11_hide cX11_hide 4 (some .int) ({ frames := 6, cells := 1, slots := 6, locals := 146 } : Room) [.ref (B + 0), .int x0] σ x := tw_metOfX (rm := ({ frames := 6, cells := 0, slots := 0, locals := 146 } : Room)) hst (tw_P_X11_hide n x0 σ) x h (fun r => (some (.int r.1), r.2)) (by decide +kernel) (Nat.le_of_ble_eq_true rfl) ⟨by decide, by decide⟩ (fun z res el eB eD eC eS hfr hlo hcs X hret hQ hT => tw_b_X11_hide  z res el eB eD eC eS hfr hlo hcs X hret hQ hT)
def tw_P_X11_turn (n : Nat) (x0 : Int32) (x1 : Int32) (σ : tw_Sg) : Option ((Int32 × tw_Sg) ⊕ String) :=
tw_jn (fun (a1 : Unit) =>
some (Sum.inr "java/lang/IndexOutOfBoundsException")) (fun (j2 : (Unit) → Option ((Int32 × tw_Sg) ⊕ String)) =>
if x0 < 0 then (j2 ())
else (if x0 < (σ 1 5) then (tw_jn (fun (a3 : Unit) =>
some (Sum.inr "java/lang/IllegalArgumentException")) (fun (j4 : (Unit) → Option ((Int32 × tw_Sg) ⊕ String)) =>
if x1 < (-3 : Int32) then (j4 ())
else (if x1 ≤ (3 : Int32) then (tw_bd (tw_P_X4_keep 1 σ) (fun r5 =>
tw_bd (tw_P_X7_get 12 x0 r5) (fun r6 =>
tw_lt r6 (fun (v7 : Int32) =>
tw_bd (tw_P_X7_put 12 x0 x1 r5) (fun r8 =>
tw_bd (tw_P_X10_renew n r8) (fun r9 =>
some (Sum.inl (v7, r9))))))))
else (j4 ()))))
else (j2 ())))
theorem tw_y_X11_turn : tw_My yX11_turn cX11_turn 4 (some .int) 2 := ⟨List.mem_of_getElem? tw_w1232, List.mem_of_getElem? tw_w36, by decide +kernel, by decide +kernel, by decide +kernel⟩
theorem tw_v_X11_turn : tw_Mv yX11_turn "TreasureWalk" := ⟨List.mem_of_getElem? tw_w1230, List.mem_of_getElem? tw_w1231, rfl⟩
set_option maxRecDepth 100000 in
set_option maxHeartbeats 4000000 in
theorem tw_b_X11_turn {l : Launch} {B : Nat} {D : tw_G} {C : Nat → ClassId} {S : Nat → Nat} {n : Nat} {x0 : Int32} {x1 : Int32} {σ : tw_Sg}  (z : tw_Z) (res : (Int32 × tw_Sg) ⊕ String) (el : tw_zl z = l) (eB : tw_zB z = B) (eD : tw_zD z = D) (eC : tw_zC z = C) (eS : tw_zS z = S) (hfr : (tw_zR z).frames = 6) (hlo : (tw_zR z).locals = 146) (hcs : tw_zcells z ≤ (tw_zR z).cells ∧ tw_zslots z ≤ (tw_zR z).slots) (X : tw_X z cX11_turn "TreasureWalk" 4) (hret : (tw_zmeth z).sig.returnType = (some .int)) (hQ : tw_RoX z (fun r => (some (.int r.1), r.2)) res) (hT : ∀ x, res = .inr x → tw_To z σ x) : tw_Rf z res (tw_P_X11_turn n x0 x1 σ) σ 0 (lv_args 0 [.ref (B + 0), .int x0, .int x1]) [] := by
  subst el eB eD eC eS
  show tw_Rf z res _ σ 0 [(0, .ref (tw_zB z + 0)), (1, .int x0), (2, .int x1)] []
  unfold tw_P_X11_turn
  refine r_iload_n X dX11_turn_0 rfl 1 rfl ?_
  refine r_jn (α := Unit) (σJ := fun a1 => σ) (pcJ := 15) (LJ := fun a1 => []) (stJ := fun a1 => []) (ok := fun a1 => True) (fun a1 hoka1 => ?_) (fun j2 hj2 => ?_)
  ·
    exact tw_th1_A X dX11_turn_15 dX11_turn_18 dX11_turn_19 dX11_turn_21 dX11_turn_24 rfl tw_l_A_248 hT
  refine r_if_lt X dX11_turn_1 (tgt := 15) (by decide) ?_ ?_
  ·
    exact tw_Rf.sub [] rfl (hj2 () trivial)
  ·
    refine r_iload_n X dX11_turn_4 rfl 1 rfl ?_
    refine r_aload_n X dX11_turn_5 rfl 0 rfl ?_
    refine tw_g11_0 (k := 0) (v := .ref (tw_zB z + 1)) X dX11_turn_6 _ tw_w431 tw_kc0 rfl ?_
    refine tw_g2_5N (k := 1) (v := .int (σ 1 5)) X dX11_turn_9 _ tw_w183 tw_kc1 rfl ?_
    refine r_icmp_lt X dX11_turn_12 (tgt := 25) (by decide) ?_ ?_
    ·
      refine r_iload_n X dX11_turn_25 rfl 2 rfl ?_
      refine r_bipush X dX11_turn_26 (v := (-3 : Int32)) (by decide) ?_
      refine r_jn (α := Unit) (σJ := fun a3 => σ) (pcJ := 36) (LJ := fun a3 => []) (stJ := fun a3 => []) (ok := fun a3 => True) (fun a3 hoka3 => ?_) (fun j4 hj4 => ?_)
      ·
        exact tw_th0_A X dX11_turn_36 dX11_turn_39 dX11_turn_40 dX11_turn_42 dX11_turn_45 rfl tw_l_A_250 hT
      refine r_icmp_lt X dX11_turn_28 (tgt := 36) (by decide) ?_ ?_
      ·
        exact tw_Rf.sub [] rfl (hj4 () trivial)
      ·
        refine r_iload_n X dX11_turn_31 rfl 2 rfl ?_
        refine r_iconst X dX11_turn_32 (v := (3 : Int32)) (by decide) ?_
        refine r_icmp_le X dX11_turn_33 (tgt := 46) (by decide) ?_ ?_
        ·
          refine r_aload_n X dX11_turn_46 rfl 0 rfl ?_
          refine tw_g11_1 (k := 0) (v := .ref (tw_zB z + 142)) X dX11_turn_47 _ tw_w432 tw_kc0 rfl ?_
          refine r_aload_n X dX11_turn_50 rfl 0 rfl ?_
          refine tw_g11_0 (k := 0) (v := .ref (tw_zB z + 1)) X dX11_turn_51 _ tw_w431 tw_kc0 rfl ?_
          refine r_bd (fun r5 hr5 => ?_)
          refine tw_c_X4_keep X dX11_turn_54 _ tw_w461 tw_kc1 hr5 (tw_le hfr rfl) (tw_le hlo rfl) hcs (Nat.le_of_ble_eq_true rfl) trivial ?_
          refine r_aload_n X dX11_turn_57 rfl 0 rfl ?_
          refine tw_g11_0 (k := 0) (v := .ref (tw_zB z + 1)) X dX11_turn_58 _ tw_w431 tw_kc0 rfl ?_
          refine tw_g2_8N (k := 1) (v := .ref (tw_zB z + 12)) X dX11_turn_61 _ tw_w191 tw_kc1 rfl ?_
          refine r_iload_n X dX11_turn_64 rfl 1 rfl ?_
          refine r_bd (fun r6 hr6 => ?_)
          refine tw_c_X7_get X dX11_turn_65 _ tw_w1084 tw_kc12 hr6 (tw_le hfr rfl) (tw_le hlo rfl) hcs (Nat.le_of_ble_eq_true rfl) trivial ?_
          refine r_istore_n X dX11_turn_68 rfl (by decide) (LL := fun v7 => [(3, .int v7), (0, .ref (tw_zB z + 0)), (1, .int x0), (2, .int x1)]) (fun _ => rfl) (fun v7 => ?_)
          refine r_aload_n X dX11_turn_69 rfl 1 rfl ?_
          refine tw_g11_0 (k := 0) (v := .ref (tw_zB z + 1)) X dX11_turn_70 _ tw_w431 tw_kc0 rfl ?_
          refine tw_g2_8N (k := 1) (v := .ref (tw_zB z + 12)) X dX11_turn_73 _ tw_w191 tw_kc1 rfl ?_
          refine r_iload_n X dX11_turn_76 rfl 2 rfl ?_
          refine r_iload_n X dX11_turn_77 rfl 3 rfl ?_
          refine r_bd (fun r8 hr8 => ?_)
          refine tw_c_X7_put X dX11_turn_78 _ tw_w1214 tw_kc12 hr8 (tw_le hfr rfl) (tw_le hlo rfl) hcs (Nat.le_of_ble_eq_true rfl) trivial ?_
          refine r_aload_n X dX11_turn_81 rfl 1 rfl ?_
          refine tw_g11_3 (k := 0) (v := .ref (tw_zB z + 33)) X dX11_turn_82 _ tw_w434 tw_kc0 rfl ?_
          refine r_bd (fun r9 hr9 => ?_)
          refine tw_c_X10_renew X dX11_turn_85 _ tw_w508  hr9 (tw_le hfr rfl) (tw_le hlo rfl) hcs (Nat.le_of_ble_eq_true rfl) trivial ?_
          refine r_iload_n X dX11_turn_88 rfl 0 rfl ?_
          exact r_iretX X dX11_turn_89 hret hQ rfl
        ·
          exact tw_Rf.sub [] rfl (hj4 () trivial)
    ·
      exact tw_Rf.sub [] rfl (hj2 () trivial)
theorem tw_m_X11_turn {l : Launch} {B : Nat} {D : tw_G} {C : Nat → ClassId} {S : Nat → Nat} {n : Nat} {x0 : Int32} {x1 : Int32} {σ : tw_Sg}  {r : Int32 × tw_Sg} (h : tw_P_X11_turn n x0 x1 σ = some (.inl r)) : tw_Met l B D C S yX11_turn cX11_turn 4 (some .int) ({ frames := 6, cells := 0, slots := 0, locals := 146 } : Room) [.ref (B + 0), .int x0, .int x1] σ (some (.int r.1)) r.2 := tw_metOfR (rm := ({ frames := 6, cells := 0, slots := 0, locals := 146 } : Room)) (tw_P_X11_turn n x0 x1 σ) r h (fun r => (some (.int r.1), r.2)) (by decide +kernel) (Nat.le_of_ble_eq_true rfl) (fun z res el eB eD eC eS hfr hlo hcs X hret hQ hT => tw_b_X11_turn  z res el eB eD eC eS hfr hlo hcs X hret hQ hT)
theorem tw_mx_X11_turn {l : Launch} {B : Nat} {D : tw_G} {C : Nat → ClassId} {S : Nat → Nat} {n : Nat} {x0 : Int32} {x1 : Int32} {σ : tw_Sg}  (hst : l.stackTraces = false) {x : String} (h : tw_P_X11_turn n x0 x1 σ = some (.inr x)) : tw_MetX l B D C S yX11_turn cX11_turn 4 (some .int) ({ frames := 6, cells := 1, slots := 6, locals := 146 } : Room) [.ref (B + 0), .int x0, .int x1] σ x := tw_metOfX (rm := ({ frames := 6, cells := 0, slots := 0, locals := 146 } : Room)) hst (tw_P_X11_turn n x0 x1 σ) x h (fun r => (some (.int r.1), r.2)) (by decide +kernel) (Nat.le_of_ble_eq_true rfl) ⟨by decide, by decide⟩ (fun z res el eB eD eC eS hfr hlo hcs X hret hQ hT => tw_b_X11_turn  z res el eB eD eC eS hfr hlo hcs X hret hQ hT)
def tw_P_X11_undo (n : Nat)  (σ : tw_Sg) : Option (Int32 × tw_Sg) :=
tw_bd (tw_P_X4_takeBack 1 σ) (fun r1 =>
if ¬ r1.1 = 0 then (tw_bd (tw_P_X10_renew n r1.2) (fun r2 =>
some ((r2 142 2), r2)))
else (some ((-1 : Int32), r1.2)))
theorem tw_y_X11_undo : tw_My yX11_undo cX11_undo 1 (some .int) 0 := ⟨List.mem_of_getElem? tw_w503, List.mem_of_getElem? tw_w36, by decide +kernel, by decide +kernel, by decide +kernel⟩
theorem tw_v_X11_undo : tw_Mv yX11_undo "TreasureWalk" := ⟨List.mem_of_getElem? tw_w501, List.mem_of_getElem? tw_w502, rfl⟩
set_option maxRecDepth 100000 in
set_option maxHeartbeats 4000000 in
theorem tw_m_X11_undo {l : Launch} {B : Nat} {D : tw_G} {C : Nat → ClassId} {S : Nat → Nat} {n : Nat}  {σ : tw_Sg}  {r : Int32 × tw_Sg} (h : tw_P_X11_undo n σ = some r) : tw_Met l B D C S yX11_undo cX11_undo 1 (some .int) ({ frames := 6, cells := 0, slots := 0, locals := 146 } : Room) [.ref (B + 0)] σ (some (.int r.1)) r.2 := by
  refine tw_metOfP (tw_P_X11_undo n σ) r h (fun r => (some (.int r.1), r.2)) (by decide +kernel) (Nat.le_of_ble_eq_true rfl) ⟨rfl, rfl⟩ ?_
  intro z el eB eD eC eS hfr hlo hcs X hret hQ
  subst el eB eD eC eS
  have X : tw_X z cX11_undo "TreasureWalk" 1 := X
  show tw_Rf z r _ σ 0 [(0, .ref (tw_zB z + 0))] []
  unfold tw_P_X11_undo
  refine r_aload_n X dX11_undo_0 rfl 0 rfl ?_
  refine tw_g11_1 (k := 0) (v := .ref (tw_zB z + 142)) X dX11_undo_1 _ tw_w432 tw_kc0 rfl ?_
  refine r_aload_n X dX11_undo_4 rfl 0 rfl ?_
  refine tw_g11_0 (k := 0) (v := .ref (tw_zB z + 1)) X dX11_undo_5 _ tw_w431 tw_kc0 rfl ?_
  refine r_bd (fun r1 hr1 => ?_)
  refine tw_c_X4_takeBack X dX11_undo_8 _ tw_w504 tw_kc1 hr1 (tw_le hfr rfl) (tw_le hlo rfl) hcs (Nat.le_of_ble_eq_true rfl) trivial ?_
  refine r_if_ne X dX11_undo_11 (tgt := 16) (by decide) ?_ ?_
  ·
    refine r_aload_n X dX11_undo_16 rfl 0 rfl ?_
    refine tw_g11_3 (k := 0) (v := .ref (tw_zB z + 33)) X dX11_undo_17 _ tw_w434 tw_kc0 rfl ?_
    refine r_bd (fun r2 hr2 => ?_)
    refine tw_c_X10_renew X dX11_undo_20 _ tw_w508  hr2 (tw_le hfr rfl) (tw_le hlo rfl) hcs (Nat.le_of_ble_eq_true rfl) trivial ?_
    refine r_aload_n X dX11_undo_23 rfl 0 rfl ?_
    refine tw_g11_1 (k := 0) (v := .ref (tw_zB z + 142)) X dX11_undo_24 _ tw_w432 tw_kc0 rfl ?_
    refine tw_g4_2N (k := 142) (v := .int (r2 142 2)) X dX11_undo_27 _ tw_w350 tw_kc142 rfl ?_
    exact r_iret X dX11_undo_30 hret hQ rfl
  ·
    refine r_iconst X dX11_undo_14 (v := (-1 : Int32)) (by decide) ?_
    exact r_iret X dX11_undo_15 hret hQ rfl
def tw_P_X11_checksum (n : Nat)  (σ : tw_Sg) : Option (Int64 × tw_Sg) :=
tw_lt (0 : Int64) (fun (v1 : Int64) =>
tw_lt (0 : Int32) (fun (v2 : Int32) =>
tw_lp (fun (k4 : (Int64 × Int32 × tw_Sg) → Option (Int64 × tw_Sg)) (a3 : Int64 × Int32 × tw_Sg) =>
if (12 : Int32) < a3.2.1 then (tw_lt (0 : Int32) (fun (v5 : Int32) =>
tw_lp (fun (k7 : (Int64 × Int32 × tw_Sg) → Option (Int64 × tw_Sg)) (a6 : Int64 × Int32 × tw_Sg) =>
if (a6.2.2 1 1) ≤ a6.2.1 then (tw_lt (0 : Int32) (fun (v8 : Int32) =>
tw_lp (fun (k10 : (Int64 × Int32 × tw_Sg) → Option (Int64 × tw_Sg)) (a9 : Int64 × Int32 × tw_Sg) =>
if (a9.2.2 14 0) ≤ a9.2.1 then (some (a9.1, a9.2.2))
else (tw_bd (tw_P_X1_isUsed 14 a9.2.1 a9.2.2) (fun r11 =>
tw_jn (fun (a12 : Int32) =>
tw_lt (((31 : Int64) * a9.1) + (Int32.toInt64 a12)) (fun (v14 : Int64) =>
tw_lt (0 : Int32) (fun (v15 : Int32) =>
tw_lp (fun (k17 : (Int64 × Int32 × Int32 × tw_Sg) → Option (Int64 × tw_Sg)) (a16 : Int64 × Int32 × Int32 × tw_Sg) =>
tw_bd (tw_P_X7_get 21 a16.2.1 a16.2.2.2) (fun r18 =>
if r18 < a16.2.2.1 then (tw_lt (a16.2.1 + (1 : Int32)) (fun (v19 : Int32) =>
k10 (a16.1, v19, a16.2.2.2)))
else (tw_bn (tw_P_X11_reached n a16.2.1 a16.2.2.1 a16.2.2.2) (fun r20 =>
tw_lt (((31 : Int64) * a16.1) + (Int32.toInt64 r20)) (fun (v21 : Int64) =>
tw_lt (a16.2.2.1 + (1 : Int32)) (fun (v22 : Int32) =>
k17 (v21, a16.2.1, v22, a16.2.2.2))))))) n (v14, a9.2.1, v15, a9.2.2)))) (fun (j13 : (Int32) → Option (Int64 × tw_Sg)) =>
if r11 = 0 then (j13 (0 : Int32))
else (j13 (1 : Int32)))))) n (a6.1, v8, a6.2.2)))
else (tw_lt (0 : Int32) (fun (v23 : Int32) =>
tw_lp (fun (k25 : (Int64 × Int32 × Int32 × tw_Sg) → Option (Int64 × tw_Sg)) (a24 : Int64 × Int32 × Int32 × tw_Sg) =>
if (a24.2.2.2 1 0) ≤ a24.2.2.1 then (tw_lt (a24.2.1 + (1 : Int32)) (fun (v26 : Int32) =>
k7 (a24.1, v26, a24.2.2.2)))
else (tw_bn (tw_P_X11_cell n a24.2.2.1 a24.2.1 a24.2.2.2) (fun r27 =>
tw_lt (((31 : Int64) * a24.1) + (Int32.toInt64 r27.1)) (fun (v28 : Int64) =>
tw_lt (a24.2.2.1 + (1 : Int32)) (fun (v29 : Int32) =>
k25 (v28, a24.2.1, v29, r27.2)))))) n (a6.1, a6.2.1, v23, a6.2.2)))) n (a3.1, v5, a3.2.2)))
else (tw_bn (tw_P_X11_state n a3.2.1 a3.2.2) (fun r30 =>
tw_lt (((31 : Int64) * a3.1) + (Int32.toInt64 r30.1)) (fun (v31 : Int64) =>
tw_lt (a3.2.1 + (1 : Int32)) (fun (v32 : Int32) =>
k4 (v31, v32, r30.2)))))) n (v1, v2, σ)))
theorem tw_y_X11_checksum : tw_My yX11_checksum cX11_checksum 5 (some .long) 0 := ⟨List.mem_of_getElem? tw_w1548, List.mem_of_getElem? tw_w36, by decide +kernel, by decide +kernel, by decide +kernel⟩
theorem tw_v_X11_checksum : tw_Mv yX11_checksum "TreasureWalk" := ⟨List.mem_of_getElem? tw_w1546, List.mem_of_getElem? tw_w1547, rfl⟩
set_option maxRecDepth 100000 in
set_option maxHeartbeats 4000000 in
theorem tw_m_X11_checksum {l : Launch} {B : Nat} {D : tw_G} {C : Nat → ClassId} {S : Nat → Nat} {n : Nat}  {σ : tw_Sg}  {r : Int64 × tw_Sg} (h : tw_P_X11_checksum n σ = some r) : tw_Met l B D C S yX11_checksum cX11_checksum 5 (some .long) ({ frames := 8, cells := 0, slots := 0, locals := 166 } : Room) [.ref (B + 0)] σ (some (.long r.1)) r.2 := by
  refine tw_metOfP (tw_P_X11_checksum n σ) r h (fun r => (some (.long r.1), r.2)) (by decide +kernel) (Nat.le_of_ble_eq_true rfl) ⟨rfl, rfl⟩ ?_
  intro z el eB eD eC eS hfr hlo hcs X hret hQ
  subst el eB eD eC eS
  have X : tw_X z cX11_checksum "TreasureWalk" 5 := X
  show tw_Rf z r _ σ 0 [(0, .ref (tw_zB z + 0))] []
  unfold tw_P_X11_checksum
  refine r_lconst X dX11_checksum_0 (v := (0 : Int64)) (by decide) ?_
  refine r_lstore_n X dX11_checksum_1 rfl (by decide) (LL := fun v1 => [(1, .long v1), (0, .ref (tw_zB z + 0))]) (fun _ => rfl) (fun v1 => ?_)
  refine r_iconst X dX11_checksum_2 (v := (0 : Int32)) (by decide) ?_
  refine r_istore_n X dX11_checksum_3 rfl (by decide) (LL := fun v2 => [(3, .int v2), (1, .long v1), (0, .ref (tw_zB z + 0))]) (fun _ => rfl) (fun v2 => ?_)
  refine r_lp (α := Int64 × Int32 × tw_Sg) (σJ := fun a3 => a3.2.2) (pcJ := 4) (LJ := fun a3 => [(3, .int a3.2.1), (1, .long a3.1), (0, .ref (tw_zB z + 0))]) (stJ := fun a3 => []) (fun k4 hk4 a3 => ?_) n (v1, v2, σ)
  refine r_iload_n X dX11_checksum_4 rfl 0 rfl ?_
  refine r_bipush X dX11_checksum_5 (v := (12 : Int32)) (by decide) ?_
  refine r_icmp_gt X dX11_checksum_7 (tgt := 29) (by decide) ?_ ?_
  ·
    refine r_iconst X dX11_checksum_29 (v := (0 : Int32)) (by decide) ?_
    refine r_istore_n X dX11_checksum_30 rfl (by decide) (LL := fun v5 => [(3, .int v5), (1, .long a3.1), (0, .ref (tw_zB z + 0))]) (fun _ => rfl) (fun v5 => ?_)
    refine r_lp (α := Int64 × Int32 × tw_Sg) (σJ := fun a6 => a6.2.2) (pcJ := 31) (LJ := fun a6 => [(3, .int a6.2.1), (1, .long a6.1), (0, .ref (tw_zB z + 0))]) (stJ := fun a6 => []) (fun k7 hk7 a6 => ?_) n (a3.1, v5, a3.2.2)
    refine r_iload_n X dX11_checksum_31 rfl 0 rfl ?_
    refine r_aload_n X dX11_checksum_32 rfl 2 rfl ?_
    refine tw_g11_0 (k := 0) (v := .ref (tw_zB z + 1)) X dX11_checksum_33 _ tw_w431 tw_kc0 rfl ?_
    refine tw_g2_1N (k := 1) (v := .int (a6.2.2 1 1)) X dX11_checksum_36 _ tw_w168 tw_kc1 rfl ?_
    refine r_icmp_ge X dX11_checksum_39 (tgt := 84) (by decide) ?_ ?_
    ·
      refine r_iconst X dX11_checksum_84 (v := (0 : Int32)) (by decide) ?_
      refine r_istore_n X dX11_checksum_85 rfl (by decide) (LL := fun v8 => [(3, .int v8), (1, .long a6.1), (0, .ref (tw_zB z + 0))]) (fun _ => rfl) (fun v8 => ?_)
      refine r_lp (α := Int64 × Int32 × tw_Sg) (σJ := fun a9 => a9.2.2) (pcJ := 86) (LJ := fun a9 => [(3, .int a9.2.1), (1, .long a9.1), (0, .ref (tw_zB z + 0))]) (stJ := fun a9 => []) (fun k10 hk10 a9 => ?_) n (a6.1, v8, a6.2.2)
      refine r_iload_n X dX11_checksum_86 rfl 0 rfl ?_
      refine r_aload_n X dX11_checksum_87 rfl 2 rfl ?_
      refine tw_g11_0 (k := 0) (v := .ref (tw_zB z + 1)) X dX11_checksum_88 _ tw_w431 tw_kc0 rfl ?_
      refine tw_g2_9N (k := 1) (v := .ref (tw_zB z + 14)) X dX11_checksum_91 _ tw_w195 tw_kc1 rfl ?_
      refine tw_g1_0N (k := 14) (v := .int (a9.2.2 14 0)) X dX11_checksum_94 _ tw_w116 tw_kc14 rfl ?_
      refine r_icmp_ge X dX11_checksum_97 (tgt := 176) (by decide) ?_ ?_
      ·
        refine r_lload_n X dX11_checksum_176 rfl 1 rfl ?_
        exact r_lret X dX11_checksum_177 hret hQ rfl
      ·
        refine r_ldc2 X dX11_checksum_100 (v := (31 : Int64)) _ tw_w1549 ?_
        refine r_lload_n X dX11_checksum_103 rfl 1 rfl ?_
        refine r_lmul X dX11_checksum_104 ?_
        refine r_aload_n X dX11_checksum_105 rfl 2 rfl ?_
        refine tw_g11_0 (k := 0) (v := .ref (tw_zB z + 1)) X dX11_checksum_106 _ tw_w431 tw_kc0 rfl ?_
        refine tw_g2_9N (k := 1) (v := .ref (tw_zB z + 14)) X dX11_checksum_109 _ tw_w195 tw_kc1 rfl ?_
        refine r_iload_n X dX11_checksum_112 rfl 0 rfl ?_
        refine r_bd (fun r11 hr11 => ?_)
        refine tw_c_X1_isUsed X dX11_checksum_113 _ tw_w1574 tw_kc14 hr11 (tw_le hfr rfl) (tw_le hlo rfl) hcs (Nat.le_of_ble_eq_true rfl) trivial ?_
        refine r_jn (α := Int32) (σJ := fun a12 => a9.2.2) (pcJ := 124) (LJ := fun a12 => [(3, .int a9.2.1), (0, .ref (tw_zB z + 0))]) (stJ := fun a12 => [.int a12, .long ((31 : Int64) * a9.1)]) (ok := fun a12 => True) (fun a12 hoka12 => ?_) (fun j13 hj13 => ?_)
        ·
          refine r_i2l X dX11_checksum_124 ?_
          refine r_ladd X dX11_checksum_125 ?_
          refine r_lstore_n X dX11_checksum_126 rfl (by decide) (LL := fun v14 => [(1, .long v14), (3, .int a9.2.1), (0, .ref (tw_zB z + 0))]) (fun _ => rfl) (fun v14 => ?_)
          refine r_iconst X dX11_checksum_127 (v := (0 : Int32)) (by decide) ?_
          refine r_istore X dX11_checksum_128 (by decide) (LL := fun v15 => [(4, .int v15), (1, .long v14), (3, .int a9.2.1), (0, .ref (tw_zB z + 0))]) (fun _ => rfl) (fun v15 => ?_)
          refine r_lp (α := Int64 × Int32 × Int32 × tw_Sg) (σJ := fun a16 => a16.2.2.2) (pcJ := 130) (LJ := fun a16 => [(4, .int a16.2.2.1), (1, .long a16.1), (3, .int a16.2.1), (0, .ref (tw_zB z + 0))]) (stJ := fun a16 => []) (fun k17 hk17 a16 => ?_) n (v14, a9.2.1, v15, a9.2.2)
          refine r_iload X dX11_checksum_130 0 rfl ?_
          refine r_aload_n X dX11_checksum_132 rfl 3 rfl ?_
          refine tw_g11_0 (k := 0) (v := .ref (tw_zB z + 1)) X dX11_checksum_133 _ tw_w431 tw_kc0 rfl ?_
          refine tw_g2_9N (k := 1) (v := .ref (tw_zB z + 14)) X dX11_checksum_136 _ tw_w195 tw_kc1 rfl ?_
          refine tw_g1_4N (k := 14) (v := .ref (tw_zB z + 21)) X dX11_checksum_139 _ tw_w126 tw_kc14 rfl ?_
          refine r_iload_n X dX11_checksum_142 rfl 2 rfl ?_
          refine r_bd (fun r18 hr18 => ?_)
          refine tw_c_X7_get X dX11_checksum_143 _ tw_w1084 tw_kc21 hr18 (tw_le hfr rfl) (tw_le hlo rfl) hcs (Nat.le_of_ble_eq_true rfl) trivial ?_
          refine r_icmp_gt X dX11_checksum_146 (tgt := 170) (by decide) ?_ ?_
          ·
            refine r_iinc X dX11_checksum_170 2 rfl (v := (1 : Int32)) (by decide) (by decide) (LL := fun v19 => [(3, .int v19), (4, .int a16.2.2.1), (1, .long a16.1), (0, .ref (tw_zB z + 0))]) (fun _ => rfl) (fun v19 => ?_)
            refine r_goto X dX11_checksum_173 (tgt := 86) (by decide) ?_
            exact tw_Rf.sub [0, 2, 3] rfl (hk10 (a16.1, v19, a16.2.2.2))
          ·
            refine r_ldc2 X dX11_checksum_149 (v := (31 : Int64)) _ tw_w1549 ?_
            refine r_lload_n X dX11_checksum_152 rfl 1 rfl ?_
            refine r_lmul X dX11_checksum_153 ?_
            refine r_aload_n X dX11_checksum_154 rfl 3 rfl ?_
            refine r_iload_n X dX11_checksum_155 rfl 2 rfl ?_
            refine r_iload X dX11_checksum_156 0 rfl ?_
            refine r_bn (fun r20 hr20 => ?_)
            refine tw_c_X11_reached X dX11_checksum_158 _ tw_w1575  hr20 (tw_le hfr rfl) (tw_le hlo rfl) hcs (Nat.le_of_ble_eq_true rfl) trivial ?_
            refine r_i2l X dX11_checksum_161 ?_
            refine r_ladd X dX11_checksum_162 ?_
            refine r_lstore_n X dX11_checksum_163 rfl (by decide) (LL := fun v21 => [(1, .long v21), (4, .int a16.2.2.1), (3, .int a16.2.1), (0, .ref (tw_zB z + 0))]) (fun _ => rfl) (fun v21 => ?_)
            refine r_iinc X dX11_checksum_164 1 rfl (v := (1 : Int32)) (by decide) (by decide) (LL := fun v22 => [(4, .int v22), (1, .long v21), (3, .int a16.2.1), (0, .ref (tw_zB z + 0))]) (fun _ => rfl) (fun v22 => ?_)
            refine r_goto X dX11_checksum_167 (tgt := 130) (by decide) ?_
            exact hk17 (v21, a16.2.1, v22, a16.2.2.2)
        refine r_if_eq X dX11_checksum_116 (tgt := 123) (by decide) ?_ ?_
        ·
          refine r_iconst X dX11_checksum_123 (v := (0 : Int32)) (by decide) ?_
          exact tw_Rf.sub [0, 2] rfl (hj13 (0 : Int32) trivial)
        ·
          refine r_iconst X dX11_checksum_119 (v := (1 : Int32)) (by decide) ?_
          refine r_goto X dX11_checksum_120 (tgt := 124) (by decide) ?_
          exact tw_Rf.sub [0, 2] rfl (hj13 (1 : Int32) trivial)
    ·
      refine r_iconst X dX11_checksum_42 (v := (0 : Int32)) (by decide) ?_
      refine r_istore X dX11_checksum_43 (by decide) (LL := fun v23 => [(4, .int v23), (3, .int a6.2.1), (1, .long a6.1), (0, .ref (tw_zB z + 0))]) (fun _ => rfl) (fun v23 => ?_)
      refine r_lp (α := Int64 × Int32 × Int32 × tw_Sg) (σJ := fun a24 => a24.2.2.2) (pcJ := 45) (LJ := fun a24 => [(4, .int a24.2.2.1), (3, .int a24.2.1), (1, .long a24.1), (0, .ref (tw_zB z + 0))]) (stJ := fun a24 => []) (fun k25 hk25 a24 => ?_) n (a6.1, a6.2.1, v23, a6.2.2)
      refine r_iload X dX11_checksum_45 0 rfl ?_
      refine r_aload_n X dX11_checksum_47 rfl 3 rfl ?_
      refine tw_g11_0 (k := 0) (v := .ref (tw_zB z + 1)) X dX11_checksum_48 _ tw_w431 tw_kc0 rfl ?_
      refine tw_g2_0N (k := 1) (v := .int (a24.2.2.2 1 0)) X dX11_checksum_51 _ tw_w165 tw_kc1 rfl ?_
      refine r_icmp_ge X dX11_checksum_54 (tgt := 78) (by decide) ?_ ?_
      ·
        refine r_iinc X dX11_checksum_78 1 rfl (v := (1 : Int32)) (by decide) (by decide) (LL := fun v26 => [(3, .int v26), (4, .int a24.2.2.1), (1, .long a24.1), (0, .ref (tw_zB z + 0))]) (fun _ => rfl) (fun v26 => ?_)
        refine r_goto X dX11_checksum_81 (tgt := 31) (by decide) ?_
        exact tw_Rf.sub [0, 2, 3] rfl (hk7 (a24.1, v26, a24.2.2.2))
      ·
        refine r_ldc2 X dX11_checksum_57 (v := (31 : Int64)) _ tw_w1549 ?_
        refine r_lload_n X dX11_checksum_60 rfl 2 rfl ?_
        refine r_lmul X dX11_checksum_61 ?_
        refine r_aload_n X dX11_checksum_62 rfl 3 rfl ?_
        refine r_iload X dX11_checksum_63 0 rfl ?_
        refine r_iload_n X dX11_checksum_65 rfl 1 rfl ?_
        refine r_bn (fun r27 hr27 => ?_)
        refine tw_c_X11_cell X dX11_checksum_66 _ tw_w1570  hr27 (tw_le hfr rfl) (tw_le hlo rfl) hcs (Nat.le_of_ble_eq_true rfl) trivial ?_
        refine r_i2l X dX11_checksum_69 ?_
        refine r_ladd X dX11_checksum_70 ?_
        refine r_lstore_n X dX11_checksum_71 rfl (by decide) (LL := fun v28 => [(1, .long v28), (4, .int a24.2.2.1), (3, .int a24.2.1), (0, .ref (tw_zB z + 0))]) (fun _ => rfl) (fun v28 => ?_)
        refine r_iinc X dX11_checksum_72 1 rfl (v := (1 : Int32)) (by decide) (by decide) (LL := fun v29 => [(4, .int v29), (1, .long v28), (3, .int a24.2.1), (0, .ref (tw_zB z + 0))]) (fun _ => rfl) (fun v29 => ?_)
        refine r_goto X dX11_checksum_75 (tgt := 45) (by decide) ?_
        exact tw_Rf.sub [0, 2, 1, 3] rfl (hk25 (v28, a24.2.1, v29, r27.2))
  ·
    refine r_ldc2 X dX11_checksum_10 (v := (31 : Int64)) _ tw_w1549 ?_
    refine r_lload_n X dX11_checksum_13 rfl 1 rfl ?_
    refine r_lmul X dX11_checksum_14 ?_
    refine r_aload_n X dX11_checksum_15 rfl 2 rfl ?_
    refine r_iload_n X dX11_checksum_16 rfl 0 rfl ?_
    refine r_bn (fun r30 hr30 => ?_)
    refine tw_c_X11_state X dX11_checksum_17 _ tw_w1550  hr30 (tw_le hfr rfl) (tw_le hlo rfl) hcs (Nat.le_of_ble_eq_true rfl) trivial ?_
    refine r_i2l X dX11_checksum_20 ?_
    refine r_ladd X dX11_checksum_21 ?_
    refine r_lstore_n X dX11_checksum_22 rfl (by decide) (LL := fun v31 => [(1, .long v31), (3, .int a3.2.1), (0, .ref (tw_zB z + 0))]) (fun _ => rfl) (fun v31 => ?_)
    refine r_iinc X dX11_checksum_23 1 rfl (v := (1 : Int32)) (by decide) (by decide) (LL := fun v32 => [(3, .int v32), (1, .long v31), (0, .ref (tw_zB z + 0))]) (fun _ => rfl) (fun v32 => ?_)
    refine r_goto X dX11_checksum_26 (tgt := 4) (by decide) ?_
    exact hk4 (v31, v32, r30.2)
