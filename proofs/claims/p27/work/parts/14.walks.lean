def tw_P_X8_left (n : Nat)  (σ : tw_Sg) : Option (Nat × tw_Sg) :=
tw_bd (tw_P_X8_candidates n σ) (fun r1 =>
tw_ck (decide (r1.1 = 140)) (
tw_bd (tw_P_X0_removeAll n 140 4 r1.2) (fun r3 =>
some (140, r3))))
theorem tw_y_X8_left : tw_My yX8_left cX8_left 1 (some (.object "TreasureWalk$Cells")) 0 := ⟨List.mem_of_getElem? tw_w1180, List.mem_of_getElem? tw_w44, by decide +kernel, by decide +kernel, by decide +kernel⟩
theorem tw_v_X8_left : tw_Mv yX8_left "TreasureWalk$Survey" := ⟨List.mem_of_getElem? tw_w1178, List.mem_of_getElem? tw_w1179, rfl⟩
set_option maxRecDepth 100000 in
set_option maxHeartbeats 4000000 in
theorem tw_m_X8_left {l : Launch} {B : Nat} {D : tw_G} {C : Nat → ClassId} {S : Nat → Nat} {n : Nat}  {σ : tw_Sg}  {r : Nat × tw_Sg} (h : tw_P_X8_left n σ = some r) : tw_Met l B D C S yX8_left cX8_left 1 (some (.object "TreasureWalk$Cells")) ({ frames := 3, cells := 0, slots := 0, locals := 102 } : Room) [.ref (B + 134)] σ (some (.ref (B + r.1))) r.2 := by
  refine tw_metOfP (tw_P_X8_left n σ) r h (fun r => (some (.ref (B + r.1)), r.2)) (by decide +kernel) (Nat.le_of_ble_eq_true rfl) ⟨rfl, rfl⟩ ?_
  intro z el eB eD eC eS hfr hlo hcs X hret hQ
  subst el eB eD eC eS
  have X : tw_X z cX8_left "TreasureWalk$Survey" 1 := X
  show tw_Rf z r _ σ 0 [(0, .ref (tw_zB z + 134))] []
  unfold tw_P_X8_left
  refine r_aload_n X dX8_left_0 rfl 0 rfl ?_
  refine r_bd (fun r1 hr1 => ?_)
  refine tw_c_X8_candidates X dX8_left_1 _ tw_w1181  hr1 (tw_le hfr rfl) (tw_le hlo rfl) hcs (Nat.le_of_ble_eq_true rfl) trivial ?_
  refine r_ck (fun h2 => ?_)
  rw [(of_decide_eq_true h2 : r1.1 = 140)]
  refine r_aload_n X dX8_left_4 rfl 0 rfl ?_
  refine tw_g8_0 (k := 134) (v := .ref (tw_zB z + 1)) X dX8_left_5 _ tw_w325 tw_kc134 rfl ?_
  refine tw_g2_3N (k := 1) (v := .ref (tw_zB z + 4)) X dX8_left_8 _ tw_w176 tw_kc1 rfl ?_
  refine r_bd (fun r3 hr3 => ?_)
  refine tw_c_X0_removeAll X dX8_left_11 _ tw_w1195 tw_kc140 tw_kc4 hr3 (tw_le hfr rfl) (tw_le hlo rfl) hcs (Nat.le_of_ble_eq_true rfl) trivial ?_
  refine r_aload_n X dX8_left_14 rfl 0 rfl ?_
  refine tw_g8_3 (k := 134) (v := .ref (tw_zB z + 140)) X dX8_left_15 _ tw_w328 tw_kc134 rfl ?_
  exact r_aret X dX8_left_18 hret hQ rfl
theorem tw_c_X8_left {ρ : Type} {z : tw_Z} {cc : ByteArray} {own : String} {nL pc : Nat} {σ : tw_Sg} {L : List (Nat × Value)} {st : List Value} {ix : Nat} {n : Nat}  (X : tw_X z cc own nL) (d : decode cc pc = .ok (.invokevirtual ix, 3)) (i : Nat) (hi : lw_tbl[i]? = some (.methodLink own ix yX8_left))  {res : ρ} {E : Option ρ} {r : Nat × tw_Sg} (h : tw_P_X8_left n σ = some r) (h1 : 4 ≤ (tw_zR z).frames) (h2 : 122 ≤ (tw_zR z).locals) (hcs : tw_zcells z ≤ (tw_zR z).cells ∧ tw_zslots z ≤ (tw_zR z).slots) (hst : (st.map fun v => v.category).sum ≤ 8) (_ : True) (kk : tw_Rf z res E r.2 (pc + 3) L (.ref (tw_zB z + r.1) :: st)) : tw_Rf z res E σ pc L (.ref (tw_zB z + 134) :: st) := r_callV (As := []) X d (tw_m_X8_left  h) tw_y_X8_left tw_v_X8_left i hi rfl (tw_kd_lt tw_kc134 (by decide)) (tw_E8 tw_kc134) rfl ⟨rfl, rfl, h1, h2⟩ hcs hst rfl kk
def tw_P_X8_countParts (n : Nat)  (σ : tw_Sg) : Option (Int32 × tw_Sg) :=
tw_bd (tw_P_X8_left n σ) (fun r1 =>
tw_ck (decide (r1.1 = 140)) (
tw_bd (tw_P_X3_clear n r1.2) (fun r3 =>
tw_lt (0 : Int32) (fun (v4 : Int32) =>
tw_lt (0 : Int32) (fun (v5 : Int32) =>
tw_lp (fun (k7 : (Int32 × Int32 × tw_Sg) → Option (Int32 × tw_Sg)) (a6 : Int32 × Int32 × tw_Sg) =>
if (704 : Int32) ≤ a6.2.1 then (some (a6.1, a6.2.2))
else (tw_bd (tw_P_X0_has 140 a6.2.1 a6.2.2) (fun r8 =>
tw_jn (fun (a9 : Int32 × tw_Sg) =>
tw_lt (a6.2.1 + (1 : Int32)) (fun (v11 : Int32) =>
k7 (a9.1, v11, a9.2))) (fun (j10 : (Int32 × tw_Sg) → Option (Int32 × tw_Sg)) =>
if r8 = 0 then (j10 (a6.1, a6.2.2))
else (tw_bd (tw_P_X7_get 136 a6.2.1 a6.2.2) (fun r12 =>
if 0 ≤ r12 then (j10 (a6.1, a6.2.2))
else (tw_bd (tw_P_X3_spread n 140 a6.2.1 a6.2.2) (fun r13 =>
tw_lt (a6.1 + (1 : Int32)) (fun (v14 : Int32) =>
j10 (v14, r13.2)))))))))) n (v4, v5, r3))))))
theorem tw_y_X8_countParts : tw_My yX8_countParts cX8_countParts 4 (some .int) 0 := ⟨List.mem_of_getElem? tw_w1567, List.mem_of_getElem? tw_w44, by decide +kernel, by decide +kernel, by decide +kernel⟩
theorem tw_v_X8_countParts : tw_Mv yX8_countParts "TreasureWalk$Survey" := ⟨List.mem_of_getElem? tw_w1565, List.mem_of_getElem? tw_w1566, rfl⟩
set_option maxRecDepth 100000 in
set_option maxHeartbeats 4000000 in
theorem tw_m_X8_countParts {l : Launch} {B : Nat} {D : tw_G} {C : Nat → ClassId} {S : Nat → Nat} {n : Nat}  {σ : tw_Sg}  {r : Int32 × tw_Sg} (h : tw_P_X8_countParts n σ = some r) : tw_Met l B D C S yX8_countParts cX8_countParts 4 (some .int) ({ frames := 4, cells := 0, slots := 0, locals := 122 } : Room) [.ref (B + 134)] σ (some (.int r.1)) r.2 := by
  refine tw_metOfP (tw_P_X8_countParts n σ) r h (fun r => (some (.int r.1), r.2)) (by decide +kernel) (Nat.le_of_ble_eq_true rfl) ⟨rfl, rfl⟩ ?_
  intro z el eB eD eC eS hfr hlo hcs X hret hQ
  subst el eB eD eC eS
  have X : tw_X z cX8_countParts "TreasureWalk$Survey" 4 := X
  show tw_Rf z r _ σ 0 [(0, .ref (tw_zB z + 134))] []
  unfold tw_P_X8_countParts
  refine r_aload_n X dX8_countParts_0 rfl 0 rfl ?_
  refine r_bd (fun r1 hr1 => ?_)
  refine tw_c_X8_left X dX8_countParts_1 _ tw_w1177  hr1 (tw_le hfr rfl) (tw_le hlo rfl) hcs (Nat.le_of_ble_eq_true rfl) trivial ?_
  refine r_ck (fun h2 => ?_)
  rw [(of_decide_eq_true h2 : r1.1 = 140)]
  refine r_astore_n X dX8_countParts_4 rfl (by decide) (L' := [(1, .ref (tw_zB z + 140)), (0, .ref (tw_zB z + 134))]) rfl ?_
  refine r_aload_n X dX8_countParts_5 rfl 1 rfl ?_
  refine tw_g8_2 (k := 134) (v := .ref (tw_zB z + 135)) X dX8_countParts_6 _ tw_w327 tw_kc134 rfl ?_
  refine r_bd (fun r3 hr3 => ?_)
  refine tw_c_X3_clear X dX8_countParts_9 _ tw_w1149  hr3 (tw_le hfr rfl) (tw_le hlo rfl) hcs (Nat.le_of_ble_eq_true rfl) trivial ?_
  refine r_iconst X dX8_countParts_12 (v := (0 : Int32)) (by decide) ?_
  refine r_istore_n X dX8_countParts_13 rfl (by decide) (LL := fun v4 => [(2, .int v4), (1, .ref (tw_zB z + 140)), (0, .ref (tw_zB z + 134))]) (fun _ => rfl) (fun v4 => ?_)
  refine r_iconst X dX8_countParts_14 (v := (0 : Int32)) (by decide) ?_
  refine r_istore_n X dX8_countParts_15 rfl (by decide) (LL := fun v5 => [(3, .int v5), (2, .int v4), (1, .ref (tw_zB z + 140)), (0, .ref (tw_zB z + 134))]) (fun _ => rfl) (fun v5 => ?_)
  refine r_lp (α := Int32 × Int32 × tw_Sg) (σJ := fun a6 => a6.2.2) (pcJ := 16) (LJ := fun a6 => [(3, .int a6.2.1), (2, .int a6.1), (1, .ref (tw_zB z + 140)), (0, .ref (tw_zB z + 134))]) (stJ := fun a6 => []) (fun k7 hk7 a6 => ?_) n (v4, v5, r3)
  refine r_iload_n X dX8_countParts_16 rfl 0 rfl ?_
  refine r_sipush X dX8_countParts_17 (v := (704 : Int32)) (by decide) ?_
  refine r_icmp_ge X dX8_countParts_20 (tgt := 64) (by decide) ?_ ?_
  ·
    refine r_iload_n X dX8_countParts_64 rfl 1 rfl ?_
    exact r_iret X dX8_countParts_65 hret hQ rfl
  ·
    refine r_aload_n X dX8_countParts_23 rfl 2 rfl ?_
    refine r_iload_n X dX8_countParts_24 rfl 0 rfl ?_
    refine r_bd (fun r8 hr8 => ?_)
    refine tw_c_X0_has X dX8_countParts_25 _ tw_w1199 tw_kc140 hr8 (tw_le hfr rfl) (tw_le hlo rfl) hcs (Nat.le_of_ble_eq_true rfl) trivial ?_
    refine r_jn (α := Int32 × tw_Sg) (σJ := fun a9 => a9.2) (pcJ := 58) (LJ := fun a9 => [(3, .int a6.2.1), (2, .int a9.1), (1, .ref (tw_zB z + 140)), (0, .ref (tw_zB z + 134))]) (stJ := fun a9 => []) (ok := fun a9 => True) (fun a9 hoka9 => ?_) (fun j10 hj10 => ?_)
    ·
      refine r_iinc X dX8_countParts_58 0 rfl (v := (1 : Int32)) (by decide) (by decide) (LL := fun v11 => [(3, .int v11), (2, .int a9.1), (1, .ref (tw_zB z + 140)), (0, .ref (tw_zB z + 134))]) (fun _ => rfl) (fun v11 => ?_)
      refine r_goto X dX8_countParts_61 (tgt := 16) (by decide) ?_
      exact hk7 (a9.1, v11, a9.2)
    refine r_if_eq X dX8_countParts_28 (tgt := 58) (by decide) ?_ ?_
    ·
      exact hj10 (a6.1, a6.2.2) trivial
    ·
      refine r_aload_n X dX8_countParts_31 rfl 3 rfl ?_
      refine tw_g8_2 (k := 134) (v := .ref (tw_zB z + 135)) X dX8_countParts_32 _ tw_w327 tw_kc134 rfl ?_
      refine tw_g3_0N (k := 135) (v := .ref (tw_zB z + 136)) X dX8_countParts_35 _ tw_w316 tw_kc135 rfl ?_
      refine r_iload_n X dX8_countParts_38 rfl 0 rfl ?_
      refine r_bd (fun r12 hr12 => ?_)
      refine tw_c_X7_get X dX8_countParts_39 _ tw_w1568 tw_kc136 hr12 (tw_le hfr rfl) (tw_le hlo rfl) hcs (Nat.le_of_ble_eq_true rfl) trivial ?_
      refine r_if_ge X dX8_countParts_42 (tgt := 58) (by decide) ?_ ?_
      ·
        exact hj10 (a6.1, a6.2.2) trivial
      ·
        refine r_aload_n X dX8_countParts_45 rfl 3 rfl ?_
        refine tw_g8_2 (k := 134) (v := .ref (tw_zB z + 135)) X dX8_countParts_46 _ tw_w327 tw_kc134 rfl ?_
        refine r_aload_n X dX8_countParts_49 rfl 2 rfl ?_
        refine r_iload_n X dX8_countParts_50 rfl 0 rfl ?_
        refine r_bd (fun r13 hr13 => ?_)
        refine tw_c_X3_spread X dX8_countParts_51 _ tw_w1154 tw_kc140 hr13 (tw_le hfr rfl) (tw_le hlo rfl) hcs (Nat.le_of_ble_eq_true rfl) trivial ?_
        refine r_pop X dX8_countParts_54 rfl ?_
        refine r_iinc X dX8_countParts_55 1 rfl (v := (1 : Int32)) (by decide) (by decide) (LL := fun v14 => [(2, .int v14), (3, .int a6.2.1), (1, .ref (tw_zB z + 140)), (0, .ref (tw_zB z + 134))]) (fun _ => rfl) (fun v14 => ?_)
        exact tw_Rf.sub [1, 0, 2, 3] rfl (hj10 (v14, r13.2) trivial)
theorem tw_c_X8_countParts {ρ : Type} {z : tw_Z} {cc : ByteArray} {own : String} {nL pc : Nat} {σ : tw_Sg} {L : List (Nat × Value)} {st : List Value} {ix : Nat} {n : Nat}  (X : tw_X z cc own nL) (d : decode cc pc = .ok (.invokevirtual ix, 3)) (i : Nat) (hi : lw_tbl[i]? = some (.methodLink own ix yX8_countParts))  {res : ρ} {E : Option ρ} {r : Int32 × tw_Sg} (h : tw_P_X8_countParts n σ = some r) (h1 : 5 ≤ (tw_zR z).frames) (h2 : 145 ≤ (tw_zR z).locals) (hcs : tw_zcells z ≤ (tw_zR z).cells ∧ tw_zslots z ≤ (tw_zR z).slots) (hst : (st.map fun v => v.category).sum ≤ 8) (_ : True) (kk : tw_Rf z res E r.2 (pc + 3) L (.int r.1 :: st)) : tw_Rf z res E σ pc L (.ref (tw_zB z + 134) :: st) := r_callV (As := []) X d (tw_m_X8_countParts  h) tw_y_X8_countParts tw_v_X8_countParts i hi rfl (tw_kd_lt tw_kc134 (by decide)) (tw_E8 tw_kc134) rfl ⟨rfl, rfl, h1, h2⟩ hcs hst rfl kk
def tw_P_X8_partSize (n : Nat) (x0 : Int32) (σ : tw_Sg) : Option (Int32 × tw_Sg) :=
tw_bd (tw_P_X8_left n σ) (fun r1 =>
tw_ck (decide (r1.1 = 140)) (
tw_bd (tw_P_X3_clear n r1.2) (fun r3 =>
tw_bd (tw_P_X0_has 140 x0 r3) (fun r4 =>
tw_jn (fun (a5 : Int32 × tw_Sg) =>
some (a5.1, a5.2)) (fun (j6 : (Int32 × tw_Sg) → Option (Int32 × tw_Sg)) =>
if r4 = 0 then (j6 ((0 : Int32), r3))
else (tw_bd (tw_P_X3_spread n 140 x0 r3) (fun r7 =>
j6 (r7.1, r7.2))))))))
theorem tw_y_X8_partSize : tw_My yX8_partSize cX8_partSize 3 (some .int) 1 := ⟨List.mem_of_getElem? tw_w1176, List.mem_of_getElem? tw_w44, by decide +kernel, by decide +kernel, by decide +kernel⟩
theorem tw_v_X8_partSize : tw_Mv yX8_partSize "TreasureWalk$Survey" := ⟨List.mem_of_getElem? tw_w1174, List.mem_of_getElem? tw_w1175, rfl⟩
set_option maxRecDepth 100000 in
set_option maxHeartbeats 4000000 in
theorem tw_m_X8_partSize {l : Launch} {B : Nat} {D : tw_G} {C : Nat → ClassId} {S : Nat → Nat} {n : Nat} {x0 : Int32} {σ : tw_Sg}  {r : Int32 × tw_Sg} (h : tw_P_X8_partSize n x0 σ = some r) : tw_Met l B D C S yX8_partSize cX8_partSize 3 (some .int) ({ frames := 4, cells := 0, slots := 0, locals := 122 } : Room) [.ref (B + 134), .int x0] σ (some (.int r.1)) r.2 := by
  refine tw_metOfP (tw_P_X8_partSize n x0 σ) r h (fun r => (some (.int r.1), r.2)) (by decide +kernel) (Nat.le_of_ble_eq_true rfl) ⟨rfl, rfl⟩ ?_
  intro z el eB eD eC eS hfr hlo hcs X hret hQ
  subst el eB eD eC eS
  have X : tw_X z cX8_partSize "TreasureWalk$Survey" 3 := X
  show tw_Rf z r _ σ 0 [(0, .ref (tw_zB z + 134)), (1, .int x0)] []
  unfold tw_P_X8_partSize
  refine r_aload_n X dX8_partSize_0 rfl 0 rfl ?_
  refine r_bd (fun r1 hr1 => ?_)
  refine tw_c_X8_left X dX8_partSize_1 _ tw_w1177  hr1 (tw_le hfr rfl) (tw_le hlo rfl) hcs (Nat.le_of_ble_eq_true rfl) trivial ?_
  refine r_ck (fun h2 => ?_)
  rw [(of_decide_eq_true h2 : r1.1 = 140)]
  refine r_astore_n X dX8_partSize_4 rfl (by decide) (L' := [(2, .ref (tw_zB z + 140)), (0, .ref (tw_zB z + 134)), (1, .int x0)]) rfl ?_
  refine r_aload_n X dX8_partSize_5 rfl 1 rfl ?_
  refine tw_g8_2 (k := 134) (v := .ref (tw_zB z + 135)) X dX8_partSize_6 _ tw_w327 tw_kc134 rfl ?_
  refine r_bd (fun r3 hr3 => ?_)
  refine tw_c_X3_clear X dX8_partSize_9 _ tw_w1149  hr3 (tw_le hfr rfl) (tw_le hlo rfl) hcs (Nat.le_of_ble_eq_true rfl) trivial ?_
  refine r_aload_n X dX8_partSize_12 rfl 0 rfl ?_
  refine r_iload_n X dX8_partSize_13 rfl 2 rfl ?_
  refine r_bd (fun r4 hr4 => ?_)
  refine tw_c_X0_has X dX8_partSize_14 _ tw_w1199 tw_kc140 hr4 (tw_le hfr rfl) (tw_le hlo rfl) hcs (Nat.le_of_ble_eq_true rfl) trivial ?_
  refine r_jn (α := Int32 × tw_Sg) (σJ := fun a5 => a5.2) (pcJ := 33) (LJ := fun a5 => []) (stJ := fun a5 => [.int a5.1]) (ok := fun a5 => True) (fun a5 hoka5 => ?_) (fun j6 hj6 => ?_)
  ·
    exact r_iret X dX8_partSize_33 hret hQ rfl
  refine r_if_eq X dX8_partSize_17 (tgt := 32) (by decide) ?_ ?_
  ·
    refine r_iconst X dX8_partSize_32 (v := (0 : Int32)) (by decide) ?_
    exact tw_Rf.sub [] rfl (hj6 ((0 : Int32), r3) trivial)
  ·
    refine r_aload_n X dX8_partSize_20 rfl 1 rfl ?_
    refine tw_g8_2 (k := 134) (v := .ref (tw_zB z + 135)) X dX8_partSize_21 _ tw_w327 tw_kc134 rfl ?_
    refine r_aload_n X dX8_partSize_24 rfl 0 rfl ?_
    refine r_iload_n X dX8_partSize_25 rfl 2 rfl ?_
    refine r_bd (fun r7 hr7 => ?_)
    refine tw_c_X3_spread X dX8_partSize_26 _ tw_w1154 tw_kc140 hr7 (tw_le hfr rfl) (tw_le hlo rfl) hcs (Nat.le_of_ble_eq_true rfl) trivial ?_
    refine r_goto X dX8_partSize_29 (tgt := 33) (by decide) ?_
    exact tw_Rf.sub [] rfl (hj6 (r7.1, r7.2) trivial)
theorem tw_c_X8_partSize {ρ : Type} {z : tw_Z} {cc : ByteArray} {own : String} {nL pc : Nat} {σ : tw_Sg} {L : List (Nat × Value)} {st : List Value} {ix : Nat} {n : Nat} {x0 : Int32} (X : tw_X z cc own nL) (d : decode cc pc = .ok (.invokevirtual ix, 3)) (i : Nat) (hi : lw_tbl[i]? = some (.methodLink own ix yX8_partSize))  {res : ρ} {E : Option ρ} {r : Int32 × tw_Sg} (h : tw_P_X8_partSize n x0 σ = some r) (h1 : 5 ≤ (tw_zR z).frames) (h2 : 144 ≤ (tw_zR z).locals) (hcs : tw_zcells z ≤ (tw_zR z).cells ∧ tw_zslots z ≤ (tw_zR z).slots) (hst : (st.map fun v => v.category).sum ≤ 8) (_ : True) (kk : tw_Rf z res E r.2 (pc + 3) L (.int r.1 :: st)) : tw_Rf z res E σ pc L (.int x0 :: .ref (tw_zB z + 134) :: st) := r_callV (As := [.int x0]) X d (tw_m_X8_partSize  h) tw_y_X8_partSize tw_v_X8_partSize i hi rfl (tw_kd_lt tw_kc134 (by decide)) (tw_E8 tw_kc134) rfl ⟨rfl, rfl, h1, h2⟩ hcs hst rfl kk
def tw_P_X8_distancesFrom (n : Nat) (x0 : Int32) (σ : tw_Sg) : Option (Nat × tw_Sg) :=
tw_bd (tw_P_X3_clear n σ) (fun r1 =>
tw_bd (tw_P_X3_spread n 2 x0 r1) (fun r2 =>
some (136, r2.2)))
theorem tw_y_X8_distancesFrom : tw_My yX8_distancesFrom cX8_distancesFrom 2 (some (.object "TreasureWalk$Row")) 1 := ⟨List.mem_of_getElem? tw_w1148, List.mem_of_getElem? tw_w44, by decide +kernel, by decide +kernel, by decide +kernel⟩
theorem tw_v_X8_distancesFrom : tw_Mv yX8_distancesFrom "TreasureWalk$Survey" := ⟨List.mem_of_getElem? tw_w1146, List.mem_of_getElem? tw_w1147, rfl⟩
set_option maxRecDepth 100000 in
set_option maxHeartbeats 4000000 in
theorem tw_m_X8_distancesFrom {l : Launch} {B : Nat} {D : tw_G} {C : Nat → ClassId} {S : Nat → Nat} {n : Nat} {x0 : Int32} {σ : tw_Sg}  {r : Nat × tw_Sg} (h : tw_P_X8_distancesFrom n x0 σ = some r) : tw_Met l B D C S yX8_distancesFrom cX8_distancesFrom 2 (some (.object "TreasureWalk$Row")) ({ frames := 3, cells := 0, slots := 0, locals := 72 } : Room) [.ref (B + 134), .int x0] σ (some (.ref (B + r.1))) r.2 := by
  refine tw_metOfP (tw_P_X8_distancesFrom n x0 σ) r h (fun r => (some (.ref (B + r.1)), r.2)) (by decide +kernel) (Nat.le_of_ble_eq_true rfl) ⟨rfl, rfl⟩ ?_
  intro z el eB eD eC eS hfr hlo hcs X hret hQ
  subst el eB eD eC eS
  have X : tw_X z cX8_distancesFrom "TreasureWalk$Survey" 2 := X
  show tw_Rf z r _ σ 0 [(0, .ref (tw_zB z + 134)), (1, .int x0)] []
  unfold tw_P_X8_distancesFrom
  refine r_aload_n X dX8_distancesFrom_0 rfl 0 rfl ?_
  refine tw_g8_2 (k := 134) (v := .ref (tw_zB z + 135)) X dX8_distancesFrom_1 _ tw_w327 tw_kc134 rfl ?_
  refine r_bd (fun r1 hr1 => ?_)
  refine tw_c_X3_clear X dX8_distancesFrom_4 _ tw_w1149  hr1 (tw_le hfr rfl) (tw_le hlo rfl) hcs (Nat.le_of_ble_eq_true rfl) trivial ?_
  refine r_aload_n X dX8_distancesFrom_7 rfl 0 rfl ?_
  refine tw_g8_2 (k := 134) (v := .ref (tw_zB z + 135)) X dX8_distancesFrom_8 _ tw_w327 tw_kc134 rfl ?_
  refine r_aload_n X dX8_distancesFrom_11 rfl 0 rfl ?_
  refine tw_g8_0 (k := 134) (v := .ref (tw_zB z + 1)) X dX8_distancesFrom_12 _ tw_w325 tw_kc134 rfl ?_
  refine tw_g2_2N (k := 1) (v := .ref (tw_zB z + 2)) X dX8_distancesFrom_15 _ tw_w171 tw_kc1 rfl ?_
  refine r_iload_n X dX8_distancesFrom_18 rfl 1 rfl ?_
  refine r_bd (fun r2 hr2 => ?_)
  refine tw_c_X3_spread X dX8_distancesFrom_19 _ tw_w1154 tw_kc2 hr2 (tw_le hfr rfl) (tw_le hlo rfl) hcs (Nat.le_of_ble_eq_true rfl) trivial ?_
  refine r_pop X dX8_distancesFrom_22 rfl ?_
  refine r_aload_n X dX8_distancesFrom_23 rfl 0 rfl ?_
  refine tw_g8_2 (k := 134) (v := .ref (tw_zB z + 135)) X dX8_distancesFrom_24 _ tw_w327 tw_kc134 rfl ?_
  refine tw_g3_0N (k := 135) (v := .ref (tw_zB z + 136)) X dX8_distancesFrom_27 _ tw_w316 tw_kc135 rfl ?_
  exact r_aret X dX8_distancesFrom_30 hret hQ rfl
theorem tw_c_X8_distancesFrom {ρ : Type} {z : tw_Z} {cc : ByteArray} {own : String} {nL pc : Nat} {σ : tw_Sg} {L : List (Nat × Value)} {st : List Value} {ix : Nat} {n : Nat} {x0 : Int32} (X : tw_X z cc own nL) (d : decode cc pc = .ok (.invokevirtual ix, 3)) (i : Nat) (hi : lw_tbl[i]? = some (.methodLink own ix yX8_distancesFrom))  {res : ρ} {E : Option ρ} {r : Nat × tw_Sg} (h : tw_P_X8_distancesFrom n x0 σ = some r) (h1 : 4 ≤ (tw_zR z).frames) (h2 : 93 ≤ (tw_zR z).locals) (hcs : tw_zcells z ≤ (tw_zR z).cells ∧ tw_zslots z ≤ (tw_zR z).slots) (hst : (st.map fun v => v.category).sum ≤ 8) (_ : True) (kk : tw_Rf z res E r.2 (pc + 3) L (.ref (tw_zB z + r.1) :: st)) : tw_Rf z res E σ pc L (.int x0 :: .ref (tw_zB z + 134) :: st) := r_callV (As := [.int x0]) X d (tw_m_X8_distancesFrom  h) tw_y_X8_distancesFrom tw_v_X8_distancesFrom i hi rfl (tw_kd_lt tw_kc134 (by decide)) (tw_E8 tw_kc134) rfl ⟨rfl, rfl, h1, h2⟩ hcs hst rfl kk
def tw_P_X10_twist (n : Nat) (x0 : Int32) (σ : tw_Sg) : Option (tw_Sg) :=
tw_bd (tw_P_X7_get 8 x0 σ) (fun r1 =>
tw_lt r1 (fun (v2 : Int32) =>
tw_bd (tw_P_X7_get 10 x0 σ) (fun r3 =>
tw_lt r3 (fun (v4 : Int32) =>
tw_lt v2 (fun (v5 : Int32) =>
tw_lp (fun (k7 : (Int32 × tw_Sg) → Option (tw_Sg)) (a6 : Int32 × tw_Sg) =>
tw_jn (fun (a8 : Unit) =>
some a6.2) (fun (j9 : (Unit) → Option (tw_Sg)) =>
if v4 < a6.1 then (j9 ())
else (if (704 : Int32) ≤ a6.1 then (j9 ())
else (tw_bd (tw_P_X11_isBetween v2 v4 a6.1 a6.2) (fun r10 =>
tw_jn (fun (a11 : tw_Sg) =>
tw_lt (a6.1 + (1 : Int32)) (fun (v13 : Int32) =>
k7 (v13, a11))) (fun (j12 : (tw_Sg) → Option (tw_Sg)) =>
if r10 = 0 then (j12 a6.2)
else (tw_bd (tw_P_X7_get 34 a6.1 a6.2) (fun r14 =>
tw_bd (tw_P_X7_get 12 x0 a6.2) (fun r15 =>
tw_bd (tw_P_X7_put 34 a6.1 (r14 + r15) a6.2) (fun r16 =>
j12 r16)))))))))) n (v5, σ))))))
theorem tw_y_X10_twist : tw_My yX10_twist cX10_twist 5 none 1 := ⟨List.mem_of_getElem? tw_w516, List.mem_of_getElem? tw_w42, by decide +kernel, by decide +kernel, by decide +kernel⟩
theorem tw_v_X10_twist : tw_Mv yX10_twist "TreasureWalk$Trails" := ⟨List.mem_of_getElem? tw_w515, List.mem_of_getElem? tw_w1, rfl⟩
set_option maxRecDepth 100000 in
set_option maxHeartbeats 4000000 in
theorem tw_m_X10_twist {l : Launch} {B : Nat} {D : tw_G} {C : Nat → ClassId} {S : Nat → Nat} {n : Nat} {x0 : Int32} {σ : tw_Sg}  {r : tw_Sg} (h : tw_P_X10_twist n x0 σ = some r) : tw_Met l B D C S yX10_twist cX10_twist 5 none ({ frames := 2, cells := 0, slots := 0, locals := 42 } : Room) [.ref (B + 33), .int x0] σ (none) r := by
  refine tw_metOfP (tw_P_X10_twist n x0 σ) r h (fun r => (none, r)) (by decide +kernel) (Nat.le_of_ble_eq_true rfl) ⟨rfl, rfl⟩ ?_
  intro z el eB eD eC eS hfr hlo hcs X hret hQ
  subst el eB eD eC eS
  have X : tw_X z cX10_twist "TreasureWalk$Trails" 5 := X
  show tw_Rf z r _ σ 0 [(0, .ref (tw_zB z + 33)), (1, .int x0)] []
  unfold tw_P_X10_twist
  refine r_aload_n X dX10_twist_0 rfl 0 rfl ?_
  refine tw_g10_0 (k := 33) (v := .ref (tw_zB z + 1)) X dX10_twist_1 _ tw_w288 tw_kc33 rfl ?_
  refine tw_g2_6N (k := 1) (v := .ref (tw_zB z + 8)) X dX10_twist_4 _ tw_w186 tw_kc1 rfl ?_
  refine r_iload_n X dX10_twist_7 rfl 1 rfl ?_
  refine r_bd (fun r1 hr1 => ?_)
  refine tw_c_X7_get X dX10_twist_8 _ tw_w517 tw_kc8 hr1 (tw_le hfr rfl) (tw_le hlo rfl) hcs (Nat.le_of_ble_eq_true rfl) trivial ?_
  refine r_istore_n X dX10_twist_11 rfl (by decide) (LL := fun v2 => [(2, .int v2), (0, .ref (tw_zB z + 33)), (1, .int x0)]) (fun _ => rfl) (fun v2 => ?_)
  refine r_aload_n X dX10_twist_12 rfl 1 rfl ?_
  refine tw_g10_0 (k := 33) (v := .ref (tw_zB z + 1)) X dX10_twist_13 _ tw_w288 tw_kc33 rfl ?_
  refine tw_g2_7N (k := 1) (v := .ref (tw_zB z + 10)) X dX10_twist_16 _ tw_w188 tw_kc1 rfl ?_
  refine r_iload_n X dX10_twist_19 rfl 2 rfl ?_
  refine r_bd (fun r3 hr3 => ?_)
  refine tw_c_X7_get X dX10_twist_20 _ tw_w517 tw_kc10 hr3 (tw_le hfr rfl) (tw_le hlo rfl) hcs (Nat.le_of_ble_eq_true rfl) trivial ?_
  refine r_istore_n X dX10_twist_23 rfl (by decide) (LL := fun v4 => [(3, .int v4), (2, .int v2), (0, .ref (tw_zB z + 33)), (1, .int x0)]) (fun _ => rfl) (fun v4 => ?_)
  refine r_iload_n X dX10_twist_24 rfl 1 rfl ?_
  refine r_istore X dX10_twist_25 (by decide) (LL := fun v5 => [(4, .int v5), (3, .int v4), (2, .int v2), (0, .ref (tw_zB z + 33)), (1, .int x0)]) (fun _ => rfl) (fun v5 => ?_)
  refine r_lp (α := Int32 × tw_Sg) (σJ := fun a6 => a6.2) (pcJ := 27) (LJ := fun a6 => [(4, .int a6.1), (3, .int v4), (2, .int v2), (0, .ref (tw_zB z + 33)), (1, .int x0)]) (stJ := fun a6 => []) (fun k7 hk7 a6 => ?_) n (v5, σ)
  refine r_iload X dX10_twist_27 0 rfl ?_
  refine r_iload_n X dX10_twist_29 rfl 1 rfl ?_
  refine r_jn (α := Unit) (σJ := fun a8 => a6.2) (pcJ := 87) (LJ := fun a8 => []) (stJ := fun a8 => []) (ok := fun a8 => True) (fun a8 hoka8 => ?_) (fun j9 hj9 => ?_)
  ·
    exact r_vret X dX10_twist_87 hret hQ rfl
  refine r_icmp_gt X dX10_twist_30 (tgt := 87) (by decide) ?_ ?_
  ·
    exact tw_Rf.sub [] rfl (hj9 () trivial)
  ·
    refine r_iload X dX10_twist_33 0 rfl ?_
    refine r_sipush X dX10_twist_35 (v := (704 : Int32)) (by decide) ?_
    refine r_icmp_ge X dX10_twist_38 (tgt := 87) (by decide) ?_ ?_
    ·
      exact tw_Rf.sub [] rfl (hj9 () trivial)
    ·
      refine r_iload_n X dX10_twist_41 rfl 2 rfl ?_
      refine r_iload_n X dX10_twist_42 rfl 1 rfl ?_
      refine r_iload X dX10_twist_43 0 rfl ?_
      refine r_bd (fun r10 hr10 => ?_)
      refine tw_c_X11_isBetweenn X dX10_twist_45 _ tw_w521  hr10 (tw_le hfr rfl) (tw_le hlo rfl) hcs (Nat.le_of_ble_eq_true rfl) trivial ?_
      refine r_jn (α := tw_Sg) (σJ := fun a11 => a11) (pcJ := 81) (LJ := fun a11 => [(4, .int a6.1), (3, .int v4), (2, .int v2), (0, .ref (tw_zB z + 33)), (1, .int x0)]) (stJ := fun a11 => []) (ok := fun a11 => True) (fun a11 hoka11 => ?_) (fun j12 hj12 => ?_)
      ·
        refine r_iinc X dX10_twist_81 0 rfl (v := (1 : Int32)) (by decide) (by decide) (LL := fun v13 => [(4, .int v13), (3, .int v4), (2, .int v2), (0, .ref (tw_zB z + 33)), (1, .int x0)]) (fun _ => rfl) (fun v13 => ?_)
        refine r_goto X dX10_twist_84 (tgt := 27) (by decide) ?_
        exact hk7 (v13, a11)
      refine r_if_eq X dX10_twist_48 (tgt := 81) (by decide) ?_ ?_
      ·
        exact hj12 a6.2 trivial
      ·
        refine r_aload_n X dX10_twist_51 rfl 3 rfl ?_
        refine tw_g10_1 (k := 33) (v := .ref (tw_zB z + 34)) X dX10_twist_52 _ tw_w289 tw_kc33 rfl ?_
        refine r_iload X dX10_twist_55 0 rfl ?_
        refine r_aload_n X dX10_twist_57 rfl 3 rfl ?_
        refine tw_g10_1 (k := 33) (v := .ref (tw_zB z + 34)) X dX10_twist_58 _ tw_w289 tw_kc33 rfl ?_
        refine r_iload X dX10_twist_61 0 rfl ?_
        refine r_bd (fun r14 hr14 => ?_)
        refine tw_c_X7_get X dX10_twist_63 _ tw_w517 tw_kc34 hr14 (tw_le hfr rfl) (tw_le hlo rfl) hcs (Nat.le_of_ble_eq_true rfl) trivial ?_
        refine r_aload_n X dX10_twist_66 rfl 3 rfl ?_
        refine tw_g10_0 (k := 33) (v := .ref (tw_zB z + 1)) X dX10_twist_67 _ tw_w288 tw_kc33 rfl ?_
        refine tw_g2_8N (k := 1) (v := .ref (tw_zB z + 12)) X dX10_twist_70 _ tw_w190 tw_kc1 rfl ?_
        refine r_iload_n X dX10_twist_73 rfl 4 rfl ?_
        refine r_bd (fun r15 hr15 => ?_)
        refine tw_c_X7_get X dX10_twist_74 _ tw_w517 tw_kc12 hr15 (tw_le hfr rfl) (tw_le hlo rfl) hcs (Nat.le_of_ble_eq_true rfl) trivial ?_
        refine r_iadd X dX10_twist_77 ?_
        refine r_bd (fun r16 hr16 => ?_)
        refine tw_c_X7_put X dX10_twist_78 _ tw_w530 tw_kc34 hr16 (tw_le hfr rfl) (tw_le hlo rfl) hcs (Nat.le_of_ble_eq_true rfl) trivial ?_
        exact hj12 r16 trivial
theorem tw_c_X10_twist {ρ : Type} {z : tw_Z} {cc : ByteArray} {own : String} {nL pc : Nat} {σ : tw_Sg} {L : List (Nat × Value)} {st : List Value} {ix : Nat} {n : Nat} {x0 : Int32} (X : tw_X z cc own nL) (d : decode cc pc = .ok (.invokevirtual ix, 3)) (i : Nat) (hi : lw_tbl[i]? = some (.methodLink own ix yX10_twist))  {res : ρ} {E : Option ρ} {r : tw_Sg} (h : tw_P_X10_twist n x0 σ = some r) (h1 : 3 ≤ (tw_zR z).frames) (h2 : 66 ≤ (tw_zR z).locals) (hcs : tw_zcells z ≤ (tw_zR z).cells ∧ tw_zslots z ≤ (tw_zR z).slots) (hst : (st.map fun v => v.category).sum ≤ 8) (_ : True) (kk : tw_Rf z res E r (pc + 3) L (st)) : tw_Rf z res E σ pc L (.int x0 :: .ref (tw_zB z + 33) :: st) := r_callV (As := [.int x0]) X d (tw_m_X10_twist  h) tw_y_X10_twist tw_v_X10_twist i hi rfl (tw_kd_lt tw_kc33 (by decide)) (tw_E10 tw_kc33) rfl ⟨rfl, rfl, h1, h2⟩ hcs hst rfl kk
def tw_P_X10_layer (x0 : Int32) (x1 : Int32) (σ : tw_Sg) : Option (Nat) :=
tw_bd (tw_P_X5_at 36 ((x0 * (9 : Int32)) + x1) σ) (fun r1 =>
tw_ck (decide (tw_kd r1 = 0)) (
some r1))
theorem tw_y_X10_layer : tw_My yX10_layer cX10_layer 3 (some (.object "TreasureWalk$Cells")) 2 := ⟨List.mem_of_getElem? tw_w550, List.mem_of_getElem? tw_w42, by decide +kernel, by decide +kernel, by decide +kernel⟩
theorem tw_v_X10_layer : tw_Mv yX10_layer "TreasureWalk$Trails" := ⟨List.mem_of_getElem? tw_w548, List.mem_of_getElem? tw_w549, rfl⟩
set_option maxRecDepth 100000 in
set_option maxHeartbeats 4000000 in
theorem tw_m_X10_layer {l : Launch} {B : Nat} {D : tw_G} {C : Nat → ClassId} {S : Nat → Nat} {x0 : Int32} {x1 : Int32} {σ : tw_Sg}  {r : Nat} (h : tw_P_X10_layer x0 x1 σ = some r) : tw_Met l B D C S yX10_layer cX10_layer 3 (some (.object "TreasureWalk$Cells")) ({ frames := 1, cells := 0, slots := 0, locals := 22 } : Room) [.ref (B + 33), .int x0, .int x1] σ (some (.ref (B + r))) σ := by
  refine tw_metOfP (tw_P_X10_layer x0 x1 σ) r h (fun r => (some (.ref (B + r)), σ)) (by decide +kernel) (Nat.le_of_ble_eq_true rfl) ⟨rfl, rfl⟩ ?_
  intro z el eB eD eC eS hfr hlo hcs X hret hQ
  subst el eB eD eC eS
  have X : tw_X z cX10_layer "TreasureWalk$Trails" 3 := X
  show tw_Rf z r _ σ 0 [(0, .ref (tw_zB z + 33)), (1, .int x0), (2, .int x1)] []
  unfold tw_P_X10_layer
  refine r_aload_n X dX10_layer_0 rfl 0 rfl ?_
  refine tw_g10_2 (k := 33) (v := .ref (tw_zB z + 36)) X dX10_layer_1 _ tw_w290 tw_kc33 rfl ?_
  refine r_iload_n X dX10_layer_4 rfl 1 rfl ?_
  refine r_bipush X dX10_layer_5 (v := (9 : Int32)) (by decide) ?_
  refine r_imul X dX10_layer_7 ?_
  refine r_iload_n X dX10_layer_8 rfl 2 rfl ?_
  refine r_iadd X dX10_layer_9 ?_
  refine r_bd (fun r1 hr1 => ?_)
  refine tw_c_X5_at X dX10_layer_10 _ tw_w551 tw_kc36 hr1 (tw_le hfr rfl) (tw_le hlo rfl) hcs (Nat.le_of_ble_eq_true rfl) trivial ?_
  refine r_ck (fun h2 => ?_)
  exact r_aret X dX10_layer_13 hret hQ rfl
theorem tw_c_X10_layer {ρ : Type} {z : tw_Z} {cc : ByteArray} {own : String} {nL pc : Nat} {σ : tw_Sg} {L : List (Nat × Value)} {st : List Value} {ix : Nat} {x0 : Int32} {x1 : Int32} (X : tw_X z cc own nL) (d : decode cc pc = .ok (.invokevirtual ix, 3)) (i : Nat) (hi : lw_tbl[i]? = some (.methodLink own ix yX10_layer))  {res : ρ} {E : Option ρ} {r : Nat} (h : tw_P_X10_layer x0 x1 σ = some r) (h1 : 2 ≤ (tw_zR z).frames) (h2 : 44 ≤ (tw_zR z).locals) (hcs : tw_zcells z ≤ (tw_zR z).cells ∧ tw_zslots z ≤ (tw_zR z).slots) (hst : (st.map fun v => v.category).sum ≤ 8) (_ : True) (kk : tw_Rf z res E σ (pc + 3) L (.ref (tw_zB z + r) :: st)) : tw_Rf z res E σ pc L (.int x1 :: .int x0 :: .ref (tw_zB z + 33) :: st) := r_callV (As := [.int x0, .int x1]) X d (tw_m_X10_layer  h) tw_y_X10_layer tw_v_X10_layer i hi rfl (tw_kd_lt tw_kc33 (by decide)) (tw_E10 tw_kc33) rfl ⟨rfl, rfl, h1, h2⟩ hcs hst rfl kk
def tw_P_X10_startSpot (x0 : Int32) (x1 : Int32) (σ : tw_Sg) : Option (Int32) :=
tw_bd (tw_P_X1_startMark 14 x0 x1 σ) (fun r1 =>
tw_bd (tw_P_X7_get 6 r1 σ) (fun r2 =>
some r2))
theorem tw_y_X10_startSpot : tw_My yX10_startSpot cX10_startSpot 3 (some .int) 2 := ⟨List.mem_of_getElem? tw_w555, List.mem_of_getElem? tw_w42, by decide +kernel, by decide +kernel, by decide +kernel⟩
theorem tw_v_X10_startSpot : tw_Mv yX10_startSpot "TreasureWalk$Trails" := ⟨List.mem_of_getElem? tw_w554, List.mem_of_getElem? tw_w3, rfl⟩
set_option maxRecDepth 100000 in
set_option maxHeartbeats 4000000 in
theorem tw_m_X10_startSpot {l : Launch} {B : Nat} {D : tw_G} {C : Nat → ClassId} {S : Nat → Nat} {x0 : Int32} {x1 : Int32} {σ : tw_Sg}  {r : Int32} (h : tw_P_X10_startSpot x0 x1 σ = some r) : tw_Met l B D C S yX10_startSpot cX10_startSpot 3 (some .int) ({ frames := 2, cells := 0, slots := 0, locals := 43 } : Room) [.ref (B + 33), .int x0, .int x1] σ (some (.int r)) σ := by
  refine tw_metOfP (tw_P_X10_startSpot x0 x1 σ) r h (fun r => (some (.int r), σ)) (by decide +kernel) (Nat.le_of_ble_eq_true rfl) ⟨rfl, rfl⟩ ?_
  intro z el eB eD eC eS hfr hlo hcs X hret hQ
  subst el eB eD eC eS
  have X : tw_X z cX10_startSpot "TreasureWalk$Trails" 3 := X
  show tw_Rf z r _ σ 0 [(0, .ref (tw_zB z + 33)), (1, .int x0), (2, .int x1)] []
  unfold tw_P_X10_startSpot
  refine r_aload_n X dX10_startSpot_0 rfl 0 rfl ?_
  refine tw_g10_0 (k := 33) (v := .ref (tw_zB z + 1)) X dX10_startSpot_1 _ tw_w288 tw_kc33 rfl ?_
  refine tw_g2_4N (k := 1) (v := .ref (tw_zB z + 6)) X dX10_startSpot_4 _ tw_w180 tw_kc1 rfl ?_
  refine r_aload_n X dX10_startSpot_7 rfl 0 rfl ?_
  refine tw_g10_0 (k := 33) (v := .ref (tw_zB z + 1)) X dX10_startSpot_8 _ tw_w288 tw_kc33 rfl ?_
  refine tw_g2_9N (k := 1) (v := .ref (tw_zB z + 14)) X dX10_startSpot_11 _ tw_w194 tw_kc1 rfl ?_
  refine r_iload_n X dX10_startSpot_14 rfl 1 rfl ?_
  refine r_iload_n X dX10_startSpot_15 rfl 2 rfl ?_
  refine r_bd (fun r1 hr1 => ?_)
  refine tw_c_X1_startMark X dX10_startSpot_16 _ tw_w556 tw_kc14 hr1 (tw_le hfr rfl) (tw_le hlo rfl) hcs (Nat.le_of_ble_eq_true rfl) trivial ?_
  refine r_bd (fun r2 hr2 => ?_)
  refine tw_c_X7_get X dX10_startSpot_19 _ tw_w517 tw_kc6 hr2 (tw_le hfr rfl) (tw_le hlo rfl) hcs (Nat.le_of_ble_eq_true rfl) trivial ?_
  exact r_iret X dX10_startSpot_22 hret hQ rfl
theorem tw_c_X10_startSpot {ρ : Type} {z : tw_Z} {cc : ByteArray} {own : String} {nL pc : Nat} {σ : tw_Sg} {L : List (Nat × Value)} {st : List Value} {ix : Nat} {x0 : Int32} {x1 : Int32} (X : tw_X z cc own nL) (d : decode cc pc = .ok (.invokevirtual ix, 3)) (i : Nat) (hi : lw_tbl[i]? = some (.methodLink own ix yX10_startSpot))  {res : ρ} {E : Option ρ} {r : Int32} (h : tw_P_X10_startSpot x0 x1 σ = some r) (h1 : 3 ≤ (tw_zR z).frames) (h2 : 65 ≤ (tw_zR z).locals) (hcs : tw_zcells z ≤ (tw_zR z).cells ∧ tw_zslots z ≤ (tw_zR z).slots) (hst : (st.map fun v => v.category).sum ≤ 8) (_ : True) (kk : tw_Rf z res E σ (pc + 3) L (.int r :: st)) : tw_Rf z res E σ pc L (.int x1 :: .int x0 :: .ref (tw_zB z + 33) :: st) := r_callV (As := [.int x0, .int x1]) X d (tw_m_X10_startSpot  h) tw_y_X10_startSpot tw_v_X10_startSpot i hi rfl (tw_kd_lt tw_kc33 (by decide)) (tw_E10 tw_kc33) rfl ⟨rfl, rfl, h1, h2⟩ hcs hst rfl kk
def tw_P_X10_step (x0 : Int32) (x1 : Int32) (σ : tw_Sg) : Option (Int32) :=
tw_bd (tw_P_X7_get 34 x0 σ) (fun r1 =>
tw_bd (tw_P_X11_neighbour x0 (x1 + r1) σ) (fun r2 =>
tw_lt r2 (fun (v3 : Int32) =>
tw_bd (tw_P_X0_has 2 v3 σ) (fun r4 =>
tw_jn (fun (a5 : Int32) =>
some a5) (fun (j6 : (Int32) → Option (Int32)) =>
if r4 = 0 then (j6 (0 : Int32))
else (j6 v3))))))
theorem tw_y_X10_step : tw_My yX10_step cX10_step 4 (some .int) 2 := ⟨List.mem_of_getElem? tw_w574, List.mem_of_getElem? tw_w42, by decide +kernel, by decide +kernel, by decide +kernel⟩
theorem tw_v_X10_step : tw_Mv yX10_step "TreasureWalk$Trails" := ⟨List.mem_of_getElem? tw_w572, List.mem_of_getElem? tw_w573, rfl⟩
set_option maxRecDepth 100000 in
set_option maxHeartbeats 4000000 in
theorem tw_m_X10_step {l : Launch} {B : Nat} {D : tw_G} {C : Nat → ClassId} {S : Nat → Nat} {x0 : Int32} {x1 : Int32} {σ : tw_Sg}  {r : Int32} (h : tw_P_X10_step x0 x1 σ = some r) : tw_Met l B D C S yX10_step cX10_step 4 (some .int) ({ frames := 1, cells := 0, slots := 0, locals := 22 } : Room) [.ref (B + 33), .int x0, .int x1] σ (some (.int r)) σ := by
  refine tw_metOfP (tw_P_X10_step x0 x1 σ) r h (fun r => (some (.int r), σ)) (by decide +kernel) (Nat.le_of_ble_eq_true rfl) ⟨rfl, rfl⟩ ?_
  intro z el eB eD eC eS hfr hlo hcs X hret hQ
  subst el eB eD eC eS
  have X : tw_X z cX10_step "TreasureWalk$Trails" 4 := X
  show tw_Rf z r _ σ 0 [(0, .ref (tw_zB z + 33)), (1, .int x0), (2, .int x1)] []
  unfold tw_P_X10_step
  refine r_iload_n X dX10_step_0 rfl 1 rfl ?_
  refine r_iload_n X dX10_step_1 rfl 2 rfl ?_
  refine r_aload_n X dX10_step_2 rfl 0 rfl ?_
  refine tw_g10_1 (k := 33) (v := .ref (tw_zB z + 34)) X dX10_step_3 _ tw_w289 tw_kc33 rfl ?_
  refine r_iload_n X dX10_step_6 rfl 1 rfl ?_
  refine r_bd (fun r1 hr1 => ?_)
  refine tw_c_X7_get X dX10_step_7 _ tw_w517 tw_kc34 hr1 (tw_le hfr rfl) (tw_le hlo rfl) hcs (Nat.le_of_ble_eq_true rfl) trivial ?_
  refine r_iadd X dX10_step_10 ?_
  refine r_bd (fun r2 hr2 => ?_)
  refine tw_c_X11_neighbourn X dX10_step_11 _ tw_w575  hr2 (tw_le hfr rfl) (tw_le hlo rfl) hcs (Nat.le_of_ble_eq_true rfl) trivial ?_
  refine r_istore_n X dX10_step_14 rfl (by decide) (LL := fun v3 => [(3, .int v3), (0, .ref (tw_zB z + 33)), (1, .int x0), (2, .int x1)]) (fun _ => rfl) (fun v3 => ?_)
  refine r_aload_n X dX10_step_15 rfl 1 rfl ?_
  refine tw_g10_0 (k := 33) (v := .ref (tw_zB z + 1)) X dX10_step_16 _ tw_w288 tw_kc33 rfl ?_
  refine tw_g2_2N (k := 1) (v := .ref (tw_zB z + 2)) X dX10_step_19 _ tw_w173 tw_kc1 rfl ?_
  refine r_iload_n X dX10_step_22 rfl 0 rfl ?_
  refine r_bd (fun r4 hr4 => ?_)
  refine tw_c_X0_has X dX10_step_23 _ tw_w562 tw_kc2 hr4 (tw_le hfr rfl) (tw_le hlo rfl) hcs (Nat.le_of_ble_eq_true rfl) trivial ?_
  refine r_jn (α := Int32) (σJ := fun a5 => σ) (pcJ := 34) (LJ := fun a5 => []) (stJ := fun a5 => [.int a5]) (ok := fun a5 => True) (fun a5 hoka5 => ?_) (fun j6 hj6 => ?_)
  ·
    exact r_iret X dX10_step_34 hret hQ rfl
  refine r_if_eq X dX10_step_26 (tgt := 33) (by decide) ?_ ?_
  ·
    refine r_iconst X dX10_step_33 (v := (0 : Int32)) (by decide) ?_
    exact tw_Rf.sub [] rfl (hj6 (0 : Int32) trivial)
  ·
    refine r_iload_n X dX10_step_29 rfl 0 rfl ?_
    refine r_goto X dX10_step_30 (tgt := 34) (by decide) ?_
    exact tw_Rf.sub [] rfl (hj6 v3 trivial)
theorem tw_c_X10_step {ρ : Type} {z : tw_Z} {cc : ByteArray} {own : String} {nL pc : Nat} {σ : tw_Sg} {L : List (Nat × Value)} {st : List Value} {ix : Nat} {x0 : Int32} {x1 : Int32} (X : tw_X z cc own nL) (d : decode cc pc = .ok (.invokevirtual ix, 3)) (i : Nat) (hi : lw_tbl[i]? = some (.methodLink own ix yX10_step))  {res : ρ} {E : Option ρ} {r : Int32} (h : tw_P_X10_step x0 x1 σ = some r) (h1 : 2 ≤ (tw_zR z).frames) (h2 : 45 ≤ (tw_zR z).locals) (hcs : tw_zcells z ≤ (tw_zR z).cells ∧ tw_zslots z ≤ (tw_zR z).slots) (hst : (st.map fun v => v.category).sum ≤ 8) (_ : True) (kk : tw_Rf z res E σ (pc + 3) L (.int r :: st)) : tw_Rf z res E σ pc L (.int x1 :: .int x0 :: .ref (tw_zB z + 33) :: st) := r_callV (As := [.int x0, .int x1]) X d (tw_m_X10_step  h) tw_y_X10_step tw_v_X10_step i hi rfl (tw_kd_lt tw_kc33 (by decide)) (tw_E10 tw_kc33) rfl ⟨rfl, rfl, h1, h2⟩ hcs hst rfl kk
def tw_P_X10_canEnd (x0 : Int32) (x1 : Int32) (x2 : Int32) (σ : tw_Sg) : Option (Int32) :=
tw_bd (tw_P_X7_get 23 x0 σ) (fun r1 =>
tw_lt r1 (fun (v2 : Int32) =>
if ¬ v2 = 0 then (if ¬ v2 = (1 : Int32) then (tw_bd (tw_P_X7_get 25 x0 σ) (fun r3 =>
tw_bd (tw_P_X10_step x1 r3 σ) (fun r4 =>
tw_jn (fun (a5 : Int32) =>
tw_ck (tw_01 a5) (some a5)) (fun (j6 : (Int32) → Option (Int32)) =>
if ¬ r4 = 0 then (j6 (0 : Int32))
else (j6 (1 : Int32))))))
else (tw_bd (tw_P_X7_get 31 x0 σ) (fun r7 =>
tw_jn (fun (a8 : Int32) =>
tw_ck (tw_01 a8) (some a8)) (fun (j9 : (Int32) → Option (Int32)) =>
if ¬ x1 = r7 then (j9 (0 : Int32))
else (j9 (1 : Int32))))))
else (tw_bd (tw_P_X7_get 27 x0 σ) (fun r10 =>
tw_jn (fun (a11 : Int32) =>
tw_ck (tw_01 a11) (some a11)) (fun (j12 : (Int32) → Option (Int32)) =>
if x2 < r10 then (j12 (0 : Int32))
else (j12 (1 : Int32)))))))
theorem tw_y_X10_canEnd : tw_My yX10_canEnd cX10_canEnd 6 (some .boolean) 3 := ⟨List.mem_of_getElem? tw_w570, List.mem_of_getElem? tw_w42, by decide +kernel, by decide +kernel, by decide +kernel⟩
theorem tw_v_X10_canEnd : tw_Mv yX10_canEnd "TreasureWalk$Trails" := ⟨List.mem_of_getElem? tw_w569, List.mem_of_getElem? tw_w5, rfl⟩
set_option maxRecDepth 100000 in
set_option maxHeartbeats 4000000 in
theorem tw_m_X10_canEnd {l : Launch} {B : Nat} {D : tw_G} {C : Nat → ClassId} {S : Nat → Nat} {x0 : Int32} {x1 : Int32} {x2 : Int32} {σ : tw_Sg}  {r : Int32} (h : tw_P_X10_canEnd x0 x1 x2 σ = some r) : tw_Met l B D C S yX10_canEnd cX10_canEnd 6 (some .boolean) ({ frames := 2, cells := 0, slots := 0, locals := 45 } : Room) [.ref (B + 33), .int x0, .int x1, .int x2] σ (some (.int r)) σ := by
  refine tw_metOfP (tw_P_X10_canEnd x0 x1 x2 σ) r h (fun r => (some (.int r), σ)) (by decide +kernel) (Nat.le_of_ble_eq_true rfl) ⟨rfl, rfl⟩ ?_
  intro z el eB eD eC eS hfr hlo hcs X hret hQ
  subst el eB eD eC eS
  have X : tw_X z cX10_canEnd "TreasureWalk$Trails" 6 := X
  show tw_Rf z r _ σ 0 [(0, .ref (tw_zB z + 33)), (1, .int x0), (2, .int x1), (3, .int x2)] []
  unfold tw_P_X10_canEnd
  refine r_aload_n X dX10_canEnd_0 rfl 0 rfl ?_
  refine tw_g10_0 (k := 33) (v := .ref (tw_zB z + 1)) X dX10_canEnd_1 _ tw_w288 tw_kc33 rfl ?_
  refine tw_g2_9N (k := 1) (v := .ref (tw_zB z + 14)) X dX10_canEnd_4 _ tw_w194 tw_kc1 rfl ?_
  refine r_astore X dX10_canEnd_7 (by decide) (L' := [(4, .ref (tw_zB z + 14)), (0, .ref (tw_zB z + 33)), (1, .int x0), (2, .int x1), (3, .int x2)]) rfl ?_
  refine r_aload X dX10_canEnd_9 0 rfl ?_
  refine tw_g1_5N (k := 14) (v := .ref (tw_zB z + 23)) X dX10_canEnd_11 _ tw_w129 tw_kc14 rfl ?_
  refine r_iload_n X dX10_canEnd_14 rfl 2 rfl ?_
  refine r_bd (fun r1 hr1 => ?_)
  refine tw_c_X7_get X dX10_canEnd_15 _ tw_w517 tw_kc23 hr1 (tw_le hfr rfl) (tw_le hlo rfl) hcs (Nat.le_of_ble_eq_true rfl) trivial ?_
  refine r_istore X dX10_canEnd_18 (by decide) (LL := fun v2 => [(5, .int v2), (4, .ref (tw_zB z + 14)), (0, .ref (tw_zB z + 33)), (1, .int x0), (2, .int x1), (3, .int x2)]) (fun _ => rfl) (fun v2 => ?_)
  refine r_iload X dX10_canEnd_20 0 rfl ?_
  refine r_if_ne X dX10_canEnd_22 (tgt := 44) (by decide) ?_ ?_
  ·
    refine r_iload X dX10_canEnd_44 0 rfl ?_
    refine r_iconst X dX10_canEnd_46 (v := (1 : Int32)) (by decide) ?_
    refine r_icmp_ne X dX10_canEnd_47 (tgt := 69) (by decide) ?_ ?_
    ·
      refine r_aload_n X dX10_canEnd_69 rfl 2 rfl ?_
      refine r_iload_n X dX10_canEnd_70 rfl 4 rfl ?_
      refine r_aload X dX10_canEnd_71 1 rfl ?_
      refine tw_g1_6N (k := 14) (v := .ref (tw_zB z + 25)) X dX10_canEnd_73 _ tw_w132 tw_kc14 rfl ?_
      refine r_iload_n X dX10_canEnd_76 rfl 3 rfl ?_
      refine r_bd (fun r3 hr3 => ?_)
      refine tw_c_X7_get X dX10_canEnd_77 _ tw_w517 tw_kc25 hr3 (tw_le hfr rfl) (tw_le hlo rfl) hcs (Nat.le_of_ble_eq_true rfl) trivial ?_
      refine r_bd (fun r4 hr4 => ?_)
      refine tw_c_X10_step X dX10_canEnd_80 _ tw_w571  hr4 (tw_le hfr rfl) (tw_le hlo rfl) hcs (Nat.le_of_ble_eq_true rfl) trivial ?_
      refine r_jn (α := Int32) (σJ := fun a5 => σ) (pcJ := 91) (LJ := fun a5 => []) (stJ := fun a5 => [.int a5]) (ok := fun a5 => True) (fun a5 hoka5 => ?_) (fun j6 hj6 => ?_)
      ·
        exact r_zret X dX10_canEnd_91 hret hQ rfl
      refine r_if_ne X dX10_canEnd_83 (tgt := 90) (by decide) ?_ ?_
      ·
        refine r_iconst X dX10_canEnd_90 (v := (0 : Int32)) (by decide) ?_
        exact tw_Rf.sub [] rfl (hj6 (0 : Int32) trivial)
      ·
        refine r_iconst X dX10_canEnd_86 (v := (1 : Int32)) (by decide) ?_
        refine r_goto X dX10_canEnd_87 (tgt := 91) (by decide) ?_
        exact tw_Rf.sub [] rfl (hj6 (1 : Int32) trivial)
    ·
      refine r_iload_n X dX10_canEnd_50 rfl 4 rfl ?_
      refine r_aload X dX10_canEnd_51 1 rfl ?_
      refine tw_g1_9N (k := 14) (v := .ref (tw_zB z + 31)) X dX10_canEnd_53 _ tw_w141 tw_kc14 rfl ?_
      refine r_iload_n X dX10_canEnd_56 rfl 3 rfl ?_
      refine r_bd (fun r7 hr7 => ?_)
      refine tw_c_X7_get X dX10_canEnd_57 _ tw_w517 tw_kc31 hr7 (tw_le hfr rfl) (tw_le hlo rfl) hcs (Nat.le_of_ble_eq_true rfl) trivial ?_
      refine r_jn (α := Int32) (σJ := fun a8 => σ) (pcJ := 68) (LJ := fun a8 => []) (stJ := fun a8 => [.int a8]) (ok := fun a8 => True) (fun a8 hoka8 => ?_) (fun j9 hj9 => ?_)
      ·
        exact r_zret X dX10_canEnd_68 hret hQ rfl
      refine r_icmp_ne X dX10_canEnd_60 (tgt := 67) (by decide) ?_ ?_
      ·
        refine r_iconst X dX10_canEnd_67 (v := (0 : Int32)) (by decide) ?_
        exact tw_Rf.sub [] rfl (hj9 (0 : Int32) trivial)
      ·
        refine r_iconst X dX10_canEnd_63 (v := (1 : Int32)) (by decide) ?_
        refine r_goto X dX10_canEnd_64 (tgt := 68) (by decide) ?_
        exact tw_Rf.sub [] rfl (hj9 (1 : Int32) trivial)
  ·
    refine r_iload_n X dX10_canEnd_25 rfl 5 rfl ?_
    refine r_aload X dX10_canEnd_26 1 rfl ?_
    refine tw_g1_7N (k := 14) (v := .ref (tw_zB z + 27)) X dX10_canEnd_28 _ tw_w135 tw_kc14 rfl ?_
    refine r_iload_n X dX10_canEnd_31 rfl 3 rfl ?_
    refine r_bd (fun r10 hr10 => ?_)
    refine tw_c_X7_get X dX10_canEnd_32 _ tw_w517 tw_kc27 hr10 (tw_le hfr rfl) (tw_le hlo rfl) hcs (Nat.le_of_ble_eq_true rfl) trivial ?_
    refine r_jn (α := Int32) (σJ := fun a11 => σ) (pcJ := 43) (LJ := fun a11 => []) (stJ := fun a11 => [.int a11]) (ok := fun a11 => True) (fun a11 hoka11 => ?_) (fun j12 hj12 => ?_)
    ·
      exact r_zret X dX10_canEnd_43 hret hQ rfl
    refine r_icmp_lt X dX10_canEnd_35 (tgt := 42) (by decide) ?_ ?_
    ·
      refine r_iconst X dX10_canEnd_42 (v := (0 : Int32)) (by decide) ?_
      exact tw_Rf.sub [] rfl (hj12 (0 : Int32) trivial)
    ·
      refine r_iconst X dX10_canEnd_38 (v := (1 : Int32)) (by decide) ?_
      refine r_goto X dX10_canEnd_39 (tgt := 43) (by decide) ?_
      exact tw_Rf.sub [] rfl (hj12 (1 : Int32) trivial)
theorem tw_c_X10_canEnd {ρ : Type} {z : tw_Z} {cc : ByteArray} {own : String} {nL pc : Nat} {σ : tw_Sg} {L : List (Nat × Value)} {st : List Value} {ix : Nat} {x0 : Int32} {x1 : Int32} {x2 : Int32} (X : tw_X z cc own nL) (d : decode cc pc = .ok (.invokevirtual ix, 3)) (i : Nat) (hi : lw_tbl[i]? = some (.methodLink own ix yX10_canEnd))  {res : ρ} {E : Option ρ} {r : Int32} (h : tw_P_X10_canEnd x0 x1 x2 σ = some r) (h1 : 3 ≤ (tw_zR z).frames) (h2 : 70 ≤ (tw_zR z).locals) (hcs : tw_zcells z ≤ (tw_zR z).cells ∧ tw_zslots z ≤ (tw_zR z).slots) (hst : (st.map fun v => v.category).sum ≤ 8) (_ : True) (kk : tw_Rf z res E σ (pc + 3) L (.int r :: st)) : tw_Rf z res E σ pc L (.int x2 :: .int x1 :: .int x0 :: .ref (tw_zB z + 33) :: st) := r_callV (As := [.int x0, .int x1, .int x2]) X d (tw_m_X10_canEnd  h) tw_y_X10_canEnd tw_v_X10_canEnd i hi rfl (tw_kd_lt tw_kc33 (by decide)) (tw_E10 tw_kc33) rfl ⟨rfl, rfl, h1, h2⟩ hcs hst rfl kk
def tw_P_X10_followLeg (n : Nat) (x0 : Int32) (x1 : Int32) (x2 : Int32) (σ : tw_Sg) : Option (tw_Sg) :=
tw_lt ((x0 * (8 : Int32)) + x1) (fun (v1 : Int32) =>
tw_bd (tw_P_X7_get 29 v1 σ) (fun r2 =>
tw_lt r2 (fun (v3 : Int32) =>
tw_lt x2 (fun (v4 : Int32) =>
tw_lt (0 : Int32) (fun (v5 : Int32) =>
tw_lp (fun (k7 : (Int32 × Int32 × tw_Sg) → Option (tw_Sg)) (a6 : Int32 × Int32 × tw_Sg) =>
tw_jn (fun (a8 : Unit) =>
some a6.2.2) (fun (j9 : (Unit) → Option (tw_Sg)) =>
if v3 < a6.2.1 then (j9 ())
else (if a6.1 = 0 then (j9 ())
else (tw_bd (tw_P_X10_canEnd v1 a6.1 a6.2.1 a6.2.2) (fun r10 =>
tw_jn (fun (a11 : tw_Sg) =>
tw_bd (tw_P_X7_get 25 v1 a11) (fun r13 =>
tw_bd (tw_P_X10_step a6.1 r13 a11) (fun r14 =>
tw_lt r14 (fun (v15 : Int32) =>
tw_lt (a6.2.1 + (1 : Int32)) (fun (v16 : Int32) =>
k7 (v15, v16, a11)))))) (fun (j12 : (tw_Sg) → Option (tw_Sg)) =>
if r10 = 0 then (j12 a6.2.2)
else (tw_bd (tw_P_X10_layer x0 (x1 + (1 : Int32)) a6.2.2) (fun r17 =>
tw_ck (decide (tw_kd r17 = 0)) (
tw_bd (tw_P_X0_add r17 a6.1 a6.2.2) (fun r19 =>
j12 r19)))))))))) n (v4, v5, σ))))))
theorem tw_y_X10_followLeg : tw_My yX10_followLeg cX10_followLeg 8 none 3 := ⟨List.mem_of_getElem? tw_w566, List.mem_of_getElem? tw_w42, by decide +kernel, by decide +kernel, by decide +kernel⟩
theorem tw_v_X10_followLeg : tw_Mv yX10_followLeg "TreasureWalk$Trails" := ⟨List.mem_of_getElem? tw_w565, List.mem_of_getElem? tw_w4, rfl⟩
set_option maxRecDepth 100000 in
set_option maxHeartbeats 4000000 in
theorem tw_m_X10_followLeg {l : Launch} {B : Nat} {D : tw_G} {C : Nat → ClassId} {S : Nat → Nat} {n : Nat} {x0 : Int32} {x1 : Int32} {x2 : Int32} {σ : tw_Sg}  {r : tw_Sg} (h : tw_P_X10_followLeg n x0 x1 x2 σ = some r) : tw_Met l B D C S yX10_followLeg cX10_followLeg 8 none ({ frames := 3, cells := 0, slots := 0, locals := 70 } : Room) [.ref (B + 33), .int x0, .int x1, .int x2] σ (none) r := by
  refine tw_metOfP (tw_P_X10_followLeg n x0 x1 x2 σ) r h (fun r => (none, r)) (by decide +kernel) (Nat.le_of_ble_eq_true rfl) ⟨rfl, rfl⟩ ?_
  intro z el eB eD eC eS hfr hlo hcs X hret hQ
  subst el eB eD eC eS
  have X : tw_X z cX10_followLeg "TreasureWalk$Trails" 8 := X
  show tw_Rf z r _ σ 0 [(0, .ref (tw_zB z + 33)), (1, .int x0), (2, .int x1), (3, .int x2)] []
  unfold tw_P_X10_followLeg
  refine r_iload_n X dX10_followLeg_0 rfl 1 rfl ?_
  refine r_bipush X dX10_followLeg_1 (v := (8 : Int32)) (by decide) ?_
  refine r_imul X dX10_followLeg_3 ?_
  refine r_iload_n X dX10_followLeg_4 rfl 2 rfl ?_
  refine r_iadd X dX10_followLeg_5 ?_
  refine r_istore X dX10_followLeg_6 (by decide) (LL := fun v1 => [(4, .int v1), (0, .ref (tw_zB z + 33)), (1, .int x0), (2, .int x1), (3, .int x2)]) (fun _ => rfl) (fun v1 => ?_)
  refine r_aload_n X dX10_followLeg_8 rfl 1 rfl ?_
  refine tw_g10_0 (k := 33) (v := .ref (tw_zB z + 1)) X dX10_followLeg_9 _ tw_w288 tw_kc33 rfl ?_
  refine tw_g2_9N (k := 1) (v := .ref (tw_zB z + 14)) X dX10_followLeg_12 _ tw_w194 tw_kc1 rfl ?_
  refine tw_g1_8N (k := 14) (v := .ref (tw_zB z + 29)) X dX10_followLeg_15 _ tw_w138 tw_kc14 rfl ?_
  refine r_iload X dX10_followLeg_18 0 rfl ?_
  refine r_bd (fun r2 hr2 => ?_)
  refine tw_c_X7_get X dX10_followLeg_20 _ tw_w517 tw_kc29 hr2 (tw_le hfr rfl) (tw_le hlo rfl) hcs (Nat.le_of_ble_eq_true rfl) trivial ?_
  refine r_istore X dX10_followLeg_23 (by decide) (LL := fun v3 => [(5, .int v3), (4, .int v1), (0, .ref (tw_zB z + 33)), (1, .int x0), (2, .int x1), (3, .int x2)]) (fun _ => rfl) (fun v3 => ?_)
  refine r_iload_n X dX10_followLeg_25 rfl 5 rfl ?_
  refine r_istore X dX10_followLeg_26 (by decide) (LL := fun v4 => [(6, .int v4), (5, .int v3), (4, .int v1), (0, .ref (tw_zB z + 33)), (1, .int x0), (2, .int x1), (3, .int x2)]) (fun _ => rfl) (fun v4 => ?_)
  refine r_iconst X dX10_followLeg_28 (v := (0 : Int32)) (by decide) ?_
  refine r_istore X dX10_followLeg_29 (by decide) (LL := fun v5 => [(7, .int v5), (6, .int v4), (5, .int v3), (4, .int v1), (0, .ref (tw_zB z + 33)), (1, .int x0), (2, .int x1), (3, .int x2)]) (fun _ => rfl) (fun v5 => ?_)
  refine tw_Rf.sub [0, 1, 2, 3, 4, 5, 6] rfl ?_
  refine r_lp (α := Int32 × Int32 × tw_Sg) (σJ := fun a6 => a6.2.2) (pcJ := 31) (LJ := fun a6 => [(7, .int a6.2.1), (6, .int a6.1), (5, .int v3), (4, .int v1), (0, .ref (tw_zB z + 33)), (1, .int x0), (2, .int x1)]) (stJ := fun a6 => []) (fun k7 hk7 a6 => ?_) n (v4, v5, σ)
  refine r_iload X dX10_followLeg_31 0 rfl ?_
  refine r_iload X dX10_followLeg_33 2 rfl ?_
  refine r_jn (α := Unit) (σJ := fun a8 => a6.2.2) (pcJ := 98) (LJ := fun a8 => []) (stJ := fun a8 => []) (ok := fun a8 => True) (fun a8 hoka8 => ?_) (fun j9 hj9 => ?_)
  ·
    exact r_vret X dX10_followLeg_98 hret hQ rfl
  refine r_icmp_gt X dX10_followLeg_35 (tgt := 98) (by decide) ?_ ?_
  ·
    exact tw_Rf.sub [] rfl (hj9 () trivial)
  ·
    refine r_iload X dX10_followLeg_38 1 rfl ?_
    refine r_if_eq X dX10_followLeg_40 (tgt := 98) (by decide) ?_ ?_
    ·
      exact tw_Rf.sub [] rfl (hj9 () trivial)
    ·
      refine r_aload_n X dX10_followLeg_43 rfl 4 rfl ?_
      refine r_iload X dX10_followLeg_44 3 rfl ?_
      refine r_iload X dX10_followLeg_46 1 rfl ?_
      refine r_iload X dX10_followLeg_48 0 rfl ?_
      refine r_bd (fun r10 hr10 => ?_)
      refine tw_c_X10_canEnd X dX10_followLeg_50 _ tw_w567  hr10 (tw_le hfr rfl) (tw_le hlo rfl) hcs (Nat.le_of_ble_eq_true rfl) trivial ?_
      refine r_jn (α := tw_Sg) (σJ := fun a11 => a11) (pcJ := 69) (LJ := fun a11 => [(7, .int a6.2.1), (6, .int a6.1), (5, .int v3), (4, .int v1), (0, .ref (tw_zB z + 33)), (1, .int x0), (2, .int x1)]) (stJ := fun a11 => []) (ok := fun a11 => True) (fun a11 hoka11 => ?_) (fun j12 hj12 => ?_)
      ·
        refine r_aload_n X dX10_followLeg_69 rfl 4 rfl ?_
        refine r_iload X dX10_followLeg_70 1 rfl ?_
        refine r_aload_n X dX10_followLeg_72 rfl 4 rfl ?_
        refine tw_g10_0 (k := 33) (v := .ref (tw_zB z + 1)) X dX10_followLeg_73 _ tw_w288 tw_kc33 rfl ?_
        refine tw_g2_9N (k := 1) (v := .ref (tw_zB z + 14)) X dX10_followLeg_76 _ tw_w194 tw_kc1 rfl ?_
        refine tw_g1_6N (k := 14) (v := .ref (tw_zB z + 25)) X dX10_followLeg_79 _ tw_w132 tw_kc14 rfl ?_
        refine r_iload X dX10_followLeg_82 3 rfl ?_
        refine r_bd (fun r13 hr13 => ?_)
        refine tw_c_X7_get X dX10_followLeg_84 _ tw_w517 tw_kc25 hr13 (tw_le hfr rfl) (tw_le hlo rfl) hcs (Nat.le_of_ble_eq_true rfl) trivial ?_
        refine r_bd (fun r14 hr14 => ?_)
        refine tw_c_X10_step X dX10_followLeg_87 _ tw_w571  hr14 (tw_le hfr rfl) (tw_le hlo rfl) hcs (Nat.le_of_ble_eq_true rfl) trivial ?_
        refine r_istore X dX10_followLeg_90 (by decide) (LL := fun v15 => [(6, .int v15), (7, .int a6.2.1), (5, .int v3), (4, .int v1), (0, .ref (tw_zB z + 33)), (1, .int x0), (2, .int x1)]) (fun _ => rfl) (fun v15 => ?_)
        refine r_iinc X dX10_followLeg_92 1 rfl (v := (1 : Int32)) (by decide) (by decide) (LL := fun v16 => [(7, .int v16), (6, .int v15), (5, .int v3), (4, .int v1), (0, .ref (tw_zB z + 33)), (1, .int x0), (2, .int x1)]) (fun _ => rfl) (fun v16 => ?_)
        refine r_goto X dX10_followLeg_95 (tgt := 31) (by decide) ?_
        exact hk7 (v15, v16, a11)
      refine r_if_eq X dX10_followLeg_53 (tgt := 69) (by decide) ?_ ?_
      ·
        exact hj12 a6.2.2 trivial
      ·
        refine r_aload_n X dX10_followLeg_56 rfl 4 rfl ?_
        refine r_iload_n X dX10_followLeg_57 rfl 5 rfl ?_
        refine r_iload_n X dX10_followLeg_58 rfl 6 rfl ?_
        refine r_iconst X dX10_followLeg_59 (v := (1 : Int32)) (by decide) ?_
        refine r_iadd X dX10_followLeg_60 ?_
        refine r_bd (fun r17 hr17 => ?_)
        refine tw_c_X10_layer X dX10_followLeg_61 _ tw_w547  hr17 (tw_le hfr rfl) (tw_le hlo rfl) hcs (Nat.le_of_ble_eq_true rfl) trivial ?_
        refine r_ck (fun h18 => ?_)
        refine r_iload X dX10_followLeg_64 1 rfl ?_
        refine r_bd (fun r19 hr19 => ?_)
        refine tw_c_X0_add X dX10_followLeg_66 _ tw_w561 (of_decide_eq_true h18) hr19 (tw_le hfr rfl) (tw_le hlo rfl) hcs (Nat.le_of_ble_eq_true rfl) trivial ?_
        exact hj12 r19 trivial
theorem tw_c_X10_followLeg {ρ : Type} {z : tw_Z} {cc : ByteArray} {own : String} {nL pc : Nat} {σ : tw_Sg} {L : List (Nat × Value)} {st : List Value} {ix : Nat} {n : Nat} {x0 : Int32} {x1 : Int32} {x2 : Int32} (X : tw_X z cc own nL) (d : decode cc pc = .ok (.invokevirtual ix, 3)) (i : Nat) (hi : lw_tbl[i]? = some (.methodLink own ix yX10_followLeg))  {res : ρ} {E : Option ρ} {r : tw_Sg} (h : tw_P_X10_followLeg n x0 x1 x2 σ = some r) (h1 : 4 ≤ (tw_zR z).frames) (h2 : 97 ≤ (tw_zR z).locals) (hcs : tw_zcells z ≤ (tw_zR z).cells ∧ tw_zslots z ≤ (tw_zR z).slots) (hst : (st.map fun v => v.category).sum ≤ 8) (_ : True) (kk : tw_Rf z res E r (pc + 3) L (st)) : tw_Rf z res E σ pc L (.int x2 :: .int x1 :: .int x0 :: .ref (tw_zB z + 33) :: st) := r_callV (As := [.int x0, .int x1, .int x2]) X d (tw_m_X10_followLeg  h) tw_y_X10_followLeg tw_v_X10_followLeg i hi rfl (tw_kd_lt tw_kc33 (by decide)) (tw_E10 tw_kc33) rfl ⟨rfl, rfl, h1, h2⟩ hcs hst rfl kk
def tw_P_X10_follow (n : Nat) (x0 : Int32) (σ : tw_Sg) : Option (tw_Sg) :=
tw_lt (0 : Int32) (fun (v1 : Int32) =>
tw_lp (fun (k3 : (Int32 × tw_Sg) → Option (tw_Sg)) (a2 : Int32 × tw_Sg) =>
tw_bd (tw_P_X7_get 17 x0 a2.2) (fun r4 =>
if r4 ≤ a2.1 then (tw_lt (0 : Int32) (fun (v5 : Int32) =>
tw_lp (fun (k7 : (Int32 × tw_Sg) → Option (tw_Sg)) (a6 : Int32 × tw_Sg) =>
tw_bd (tw_P_X7_get 21 x0 a6.2) (fun r8 =>
if r8 ≤ a6.1 then (some a6.2)
else (tw_lt (0 : Int32) (fun (v9 : Int32) =>
tw_lp (fun (k11 : (Int32 × Int32 × tw_Sg) → Option (tw_Sg)) (a10 : Int32 × Int32 × tw_Sg) =>
if (704 : Int32) ≤ a10.2.1 then (tw_lt (a10.1 + (1 : Int32)) (fun (v12 : Int32) =>
k7 (v12, a10.2.2)))
else (tw_bd (tw_P_X10_layer x0 a10.1 a10.2.2) (fun r13 =>
tw_ck (decide (tw_kd r13 = 0)) (
tw_bd (tw_P_X0_has r13 a10.2.1 a10.2.2) (fun r15 =>
tw_jn (fun (a16 : tw_Sg) =>
tw_lt (a10.2.1 + (1 : Int32)) (fun (v18 : Int32) =>
k11 (a10.1, v18, a16))) (fun (j17 : (tw_Sg) → Option (tw_Sg)) =>
if r15 = 0 then (j17 a10.2.2)
else (tw_bd (tw_P_X10_followLeg n x0 a10.1 a10.2.1 a10.2.2) (fun r19 =>
j17 r19)))))))) n (a6.1, v9, a6.2))))) n (v5, a2.2)))
else (tw_bd (tw_P_X10_layer x0 (0 : Int32) a2.2) (fun r20 =>
tw_ck (decide (tw_kd r20 = 0)) (
tw_bd (tw_P_X10_startSpot x0 a2.1 a2.2) (fun r22 =>
tw_bd (tw_P_X0_add r20 r22 a2.2) (fun r23 =>
tw_lt (a2.1 + (1 : Int32)) (fun (v24 : Int32) =>
k3 (v24, r23))))))))) n (v1, σ))
theorem tw_y_X10_follow : tw_My yX10_follow cX10_follow 4 none 1 := ⟨List.mem_of_getElem? tw_w546, List.mem_of_getElem? tw_w42, by decide +kernel, by decide +kernel, by decide +kernel⟩
theorem tw_v_X10_follow : tw_Mv yX10_follow "TreasureWalk$Trails" := ⟨List.mem_of_getElem? tw_w545, List.mem_of_getElem? tw_w2, rfl⟩
set_option maxRecDepth 100000 in
set_option maxHeartbeats 4000000 in
theorem tw_m_X10_follow {l : Launch} {B : Nat} {D : tw_G} {C : Nat → ClassId} {S : Nat → Nat} {n : Nat} {x0 : Int32} {σ : tw_Sg}  {r : tw_Sg} (h : tw_P_X10_follow n x0 σ = some r) : tw_Met l B D C S yX10_follow cX10_follow 4 none ({ frames := 4, cells := 0, slots := 0, locals := 97 } : Room) [.ref (B + 33), .int x0] σ (none) r := by
  refine tw_metOfP (tw_P_X10_follow n x0 σ) r h (fun r => (none, r)) (by decide +kernel) (Nat.le_of_ble_eq_true rfl) ⟨rfl, rfl⟩ ?_
  intro z el eB eD eC eS hfr hlo hcs X hret hQ
  subst el eB eD eC eS
  have X : tw_X z cX10_follow "TreasureWalk$Trails" 4 := X
  show tw_Rf z r _ σ 0 [(0, .ref (tw_zB z + 33)), (1, .int x0)] []
  unfold tw_P_X10_follow
  refine r_iconst X dX10_follow_0 (v := (0 : Int32)) (by decide) ?_
  refine r_istore_n X dX10_follow_1 rfl (by decide) (LL := fun v1 => [(2, .int v1), (0, .ref (tw_zB z + 33)), (1, .int x0)]) (fun _ => rfl) (fun v1 => ?_)
  refine r_lp (α := Int32 × tw_Sg) (σJ := fun a2 => a2.2) (pcJ := 2) (LJ := fun a2 => [(2, .int a2.1), (0, .ref (tw_zB z + 33)), (1, .int x0)]) (stJ := fun a2 => []) (fun k3 hk3 a2 => ?_) n (v1, σ)
  refine r_iload_n X dX10_follow_2 rfl 0 rfl ?_
  refine r_aload_n X dX10_follow_3 rfl 1 rfl ?_
  refine tw_g10_0 (k := 33) (v := .ref (tw_zB z + 1)) X dX10_follow_4 _ tw_w288 tw_kc33 rfl ?_
  refine tw_g2_9N (k := 1) (v := .ref (tw_zB z + 14)) X dX10_follow_7 _ tw_w194 tw_kc1 rfl ?_
  refine tw_g1_2N (k := 14) (v := .ref (tw_zB z + 17)) X dX10_follow_10 _ tw_w122 tw_kc14 rfl ?_
  refine r_iload_n X dX10_follow_13 rfl 2 rfl ?_
  refine r_bd (fun r4 hr4 => ?_)
  refine tw_c_X7_get X dX10_follow_14 _ tw_w517 tw_kc17 hr4 (tw_le hfr rfl) (tw_le hlo rfl) hcs (Nat.le_of_ble_eq_true rfl) trivial ?_
  refine r_icmp_ge X dX10_follow_17 (tgt := 41) (by decide) ?_ ?_
  ·
    refine r_iconst X dX10_follow_41 (v := (0 : Int32)) (by decide) ?_
    refine r_istore_n X dX10_follow_42 rfl (by decide) (LL := fun v5 => [(2, .int v5), (0, .ref (tw_zB z + 33)), (1, .int x0)]) (fun _ => rfl) (fun v5 => ?_)
    refine r_lp (α := Int32 × tw_Sg) (σJ := fun a6 => a6.2) (pcJ := 43) (LJ := fun a6 => [(2, .int a6.1), (0, .ref (tw_zB z + 33)), (1, .int x0)]) (stJ := fun a6 => []) (fun k7 hk7 a6 => ?_) n (v5, a2.2)
    refine r_iload_n X dX10_follow_43 rfl 0 rfl ?_
    refine r_aload_n X dX10_follow_44 rfl 1 rfl ?_
    refine tw_g10_0 (k := 33) (v := .ref (tw_zB z + 1)) X dX10_follow_45 _ tw_w288 tw_kc33 rfl ?_
    refine tw_g2_9N (k := 1) (v := .ref (tw_zB z + 14)) X dX10_follow_48 _ tw_w194 tw_kc1 rfl ?_
    refine tw_g1_4N (k := 14) (v := .ref (tw_zB z + 21)) X dX10_follow_51 _ tw_w125 tw_kc14 rfl ?_
    refine r_iload_n X dX10_follow_54 rfl 2 rfl ?_
    refine r_bd (fun r8 hr8 => ?_)
    refine tw_c_X7_get X dX10_follow_55 _ tw_w517 tw_kc21 hr8 (tw_le hfr rfl) (tw_le hlo rfl) hcs (Nat.le_of_ble_eq_true rfl) trivial ?_
    refine r_icmp_ge X dX10_follow_58 (tgt := 102) (by decide) ?_ ?_
    ·
      exact r_vret X dX10_follow_102 hret hQ rfl
    ·
      refine r_iconst X dX10_follow_61 (v := (0 : Int32)) (by decide) ?_
      refine r_istore_n X dX10_follow_62 rfl (by decide) (LL := fun v9 => [(3, .int v9), (2, .int a6.1), (0, .ref (tw_zB z + 33)), (1, .int x0)]) (fun _ => rfl) (fun v9 => ?_)
      refine r_lp (α := Int32 × Int32 × tw_Sg) (σJ := fun a10 => a10.2.2) (pcJ := 63) (LJ := fun a10 => [(3, .int a10.2.1), (2, .int a10.1), (0, .ref (tw_zB z + 33)), (1, .int x0)]) (stJ := fun a10 => []) (fun k11 hk11 a10 => ?_) n (a6.1, v9, a6.2)
      refine r_iload_n X dX10_follow_63 rfl 0 rfl ?_
      refine r_sipush X dX10_follow_64 (v := (704 : Int32)) (by decide) ?_
      refine r_icmp_ge X dX10_follow_67 (tgt := 96) (by decide) ?_ ?_
      ·
        refine r_iinc X dX10_follow_96 1 rfl (v := (1 : Int32)) (by decide) (by decide) (LL := fun v12 => [(2, .int v12), (3, .int a10.2.1), (0, .ref (tw_zB z + 33)), (1, .int x0)]) (fun _ => rfl) (fun v12 => ?_)
        refine r_goto X dX10_follow_99 (tgt := 43) (by decide) ?_
        exact tw_Rf.sub [0, 2, 3] rfl (hk7 (v12, a10.2.2))
      ·
        refine r_aload_n X dX10_follow_70 rfl 2 rfl ?_
        refine r_iload_n X dX10_follow_71 rfl 3 rfl ?_
        refine r_iload_n X dX10_follow_72 rfl 1 rfl ?_
        refine r_bd (fun r13 hr13 => ?_)
        refine tw_c_X10_layer X dX10_follow_73 _ tw_w547  hr13 (tw_le hfr rfl) (tw_le hlo rfl) hcs (Nat.le_of_ble_eq_true rfl) trivial ?_
        refine r_ck (fun h14 => ?_)
        refine r_iload_n X dX10_follow_76 rfl 0 rfl ?_
        refine r_bd (fun r15 hr15 => ?_)
        refine tw_c_X0_has X dX10_follow_77 _ tw_w562 (of_decide_eq_true h14) hr15 (tw_le hfr rfl) (tw_le hlo rfl) hcs (Nat.le_of_ble_eq_true rfl) trivial ?_
        refine r_jn (α := tw_Sg) (σJ := fun a16 => a16) (pcJ := 90) (LJ := fun a16 => [(3, .int a10.2.1), (2, .int a10.1), (0, .ref (tw_zB z + 33)), (1, .int x0)]) (stJ := fun a16 => []) (ok := fun a16 => True) (fun a16 hoka16 => ?_) (fun j17 hj17 => ?_)
        ·
          refine r_iinc X dX10_follow_90 0 rfl (v := (1 : Int32)) (by decide) (by decide) (LL := fun v18 => [(3, .int v18), (2, .int a10.1), (0, .ref (tw_zB z + 33)), (1, .int x0)]) (fun _ => rfl) (fun v18 => ?_)
          refine r_goto X dX10_follow_93 (tgt := 63) (by decide) ?_
          exact hk11 (a10.1, v18, a16)
        refine r_if_eq X dX10_follow_80 (tgt := 90) (by decide) ?_ ?_
        ·
          exact hj17 a10.2.2 trivial
        ·
          refine r_aload_n X dX10_follow_83 rfl 2 rfl ?_
          refine r_iload_n X dX10_follow_84 rfl 3 rfl ?_
          refine r_iload_n X dX10_follow_85 rfl 1 rfl ?_
          refine r_iload_n X dX10_follow_86 rfl 0 rfl ?_
          refine r_bd (fun r19 hr19 => ?_)
          refine tw_c_X10_followLeg X dX10_follow_87 _ tw_w563  hr19 (tw_le hfr rfl) (tw_le hlo rfl) hcs (Nat.le_of_ble_eq_true rfl) trivial ?_
          exact hj17 r19 trivial
  ·
    refine r_aload_n X dX10_follow_20 rfl 1 rfl ?_
    refine r_iload_n X dX10_follow_21 rfl 2 rfl ?_
    refine r_iconst X dX10_follow_22 (v := (0 : Int32)) (by decide) ?_
    refine r_bd (fun r20 hr20 => ?_)
    refine tw_c_X10_layer X dX10_follow_23 _ tw_w547  hr20 (tw_le hfr rfl) (tw_le hlo rfl) hcs (Nat.le_of_ble_eq_true rfl) trivial ?_
    refine r_ck (fun h21 => ?_)
    refine r_aload_n X dX10_follow_26 rfl 1 rfl ?_
    refine r_iload_n X dX10_follow_27 rfl 2 rfl ?_
    refine r_iload_n X dX10_follow_28 rfl 0 rfl ?_
    refine r_bd (fun r22 hr22 => ?_)
    refine tw_c_X10_startSpot X dX10_follow_29 _ tw_w552  hr22 (tw_le hfr rfl) (tw_le hlo rfl) hcs (Nat.le_of_ble_eq_true rfl) trivial ?_
    refine r_bd (fun r23 hr23 => ?_)
    refine tw_c_X0_add X dX10_follow_32 _ tw_w561 (of_decide_eq_true h21) hr23 (tw_le hfr rfl) (tw_le hlo rfl) hcs (Nat.le_of_ble_eq_true rfl) trivial ?_
    refine r_iinc X dX10_follow_35 0 rfl (v := (1 : Int32)) (by decide) (by decide) (LL := fun v24 => [(2, .int v24), (0, .ref (tw_zB z + 33)), (1, .int x0)]) (fun _ => rfl) (fun v24 => ?_)
    refine r_goto X dX10_follow_38 (tgt := 2) (by decide) ?_
    exact hk3 (v24, r23)
theorem tw_c_X10_follow {ρ : Type} {z : tw_Z} {cc : ByteArray} {own : String} {nL pc : Nat} {σ : tw_Sg} {L : List (Nat × Value)} {st : List Value} {ix : Nat} {n : Nat} {x0 : Int32} (X : tw_X z cc own nL) (d : decode cc pc = .ok (.invokevirtual ix, 3)) (i : Nat) (hi : lw_tbl[i]? = some (.methodLink own ix yX10_follow))  {res : ρ} {E : Option ρ} {r : tw_Sg} (h : tw_P_X10_follow n x0 σ = some r) (h1 : 5 ≤ (tw_zR z).frames) (h2 : 120 ≤ (tw_zR z).locals) (hcs : tw_zcells z ≤ (tw_zR z).cells ∧ tw_zslots z ≤ (tw_zR z).slots) (hst : (st.map fun v => v.category).sum ≤ 8) (_ : True) (kk : tw_Rf z res E r (pc + 3) L (st)) : tw_Rf z res E σ pc L (.int x0 :: .ref (tw_zB z + 33) :: st) := r_callV (As := [.int x0]) X d (tw_m_X10_follow  h) tw_y_X10_follow tw_v_X10_follow i hi rfl (tw_kd_lt tw_kc33 (by decide)) (tw_E10 tw_kc33) rfl ⟨rfl, rfl, h1, h2⟩ hcs hst rfl kk
def tw_P_X10_renew (n : Nat)  (σ : tw_Sg) : Option (tw_Sg) :=
tw_bd (tw_P_X7_fill n 34 (0 : Int32) σ) (fun r1 =>
tw_lt (0 : Int32) (fun (v2 : Int32) =>
tw_lp (fun (k4 : (Int32 × tw_Sg) → Option (tw_Sg)) (a3 : Int32 × tw_Sg) =>
if (a3.2 1 5) ≤ a3.1 then (tw_bd (tw_P_X5_clear n 36 a3.2) (fun r5 =>
tw_lt (0 : Int32) (fun (v6 : Int32) =>
tw_lp (fun (k8 : (Int32 × tw_Sg) → Option (tw_Sg)) (a7 : Int32 × tw_Sg) =>
if (a7.2 14 0) ≤ a7.1 then (some a7.2)
else (tw_bd (tw_P_X10_follow n a7.1 a7.2) (fun r9 =>
tw_lt (a7.1 + (1 : Int32)) (fun (v10 : Int32) =>
k8 (v10, r9))))) n (v6, r5))))
else (tw_bd (tw_P_X10_twist n a3.1 a3.2) (fun r11 =>
tw_lt (a3.1 + (1 : Int32)) (fun (v12 : Int32) =>
k4 (v12, r11))))) n (v2, r1)))
theorem tw_y_X10_renew : tw_My yX10_renew cX10_renew 2 none 0 := ⟨List.mem_of_getElem? tw_w511, List.mem_of_getElem? tw_w42, by decide +kernel, by decide +kernel, by decide +kernel⟩
theorem tw_v_X10_renew : tw_Mv yX10_renew "TreasureWalk$Trails" := ⟨List.mem_of_getElem? tw_w509, List.mem_of_getElem? tw_w510, rfl⟩
set_option maxRecDepth 100000 in
set_option maxHeartbeats 4000000 in
theorem tw_m_X10_renew {l : Launch} {B : Nat} {D : tw_G} {C : Nat → ClassId} {S : Nat → Nat} {n : Nat}  {σ : tw_Sg}  {r : tw_Sg} (h : tw_P_X10_renew n σ = some r) : tw_Met l B D C S yX10_renew cX10_renew 2 none ({ frames := 5, cells := 0, slots := 0, locals := 120 } : Room) [.ref (B + 33)] σ (none) r := by
  refine tw_metOfP (tw_P_X10_renew n σ) r h (fun r => (none, r)) (by decide +kernel) (Nat.le_of_ble_eq_true rfl) ⟨rfl, rfl⟩ ?_
  intro z el eB eD eC eS hfr hlo hcs X hret hQ
  subst el eB eD eC eS
  have X : tw_X z cX10_renew "TreasureWalk$Trails" 2 := X
  show tw_Rf z r _ σ 0 [(0, .ref (tw_zB z + 33))] []
  unfold tw_P_X10_renew
  refine r_aload_n X dX10_renew_0 rfl 0 rfl ?_
  refine tw_g10_1 (k := 33) (v := .ref (tw_zB z + 34)) X dX10_renew_1 _ tw_w289 tw_kc33 rfl ?_
  refine r_iconst X dX10_renew_4 (v := (0 : Int32)) (by decide) ?_
  refine r_bd (fun r1 hr1 => ?_)
  refine tw_c_X7_fill X dX10_renew_5 _ tw_w512 tw_kc34 hr1 (tw_le hfr rfl) (tw_le hlo rfl) hcs (Nat.le_of_ble_eq_true rfl) trivial ?_
  refine r_iconst X dX10_renew_8 (v := (0 : Int32)) (by decide) ?_
  refine r_istore_n X dX10_renew_9 rfl (by decide) (LL := fun v2 => [(1, .int v2), (0, .ref (tw_zB z + 33))]) (fun _ => rfl) (fun v2 => ?_)
  refine r_lp (α := Int32 × tw_Sg) (σJ := fun a3 => a3.2) (pcJ := 10) (LJ := fun a3 => [(1, .int a3.1), (0, .ref (tw_zB z + 33))]) (stJ := fun a3 => []) (fun k4 hk4 a3 => ?_) n (v2, r1)
  refine r_iload_n X dX10_renew_10 rfl 0 rfl ?_
  refine r_aload_n X dX10_renew_11 rfl 1 rfl ?_
  refine tw_g10_0 (k := 33) (v := .ref (tw_zB z + 1)) X dX10_renew_12 _ tw_w288 tw_kc33 rfl ?_
  refine tw_g2_5N (k := 1) (v := .int (a3.2 1 5)) X dX10_renew_15 _ tw_w181 tw_kc1 rfl ?_
  refine r_icmp_ge X dX10_renew_18 (tgt := 32) (by decide) ?_ ?_
  ·
    refine r_aload_n X dX10_renew_32 rfl 1 rfl ?_
    refine tw_g10_2 (k := 33) (v := .ref (tw_zB z + 36)) X dX10_renew_33 _ tw_w290 tw_kc33 rfl ?_
    refine r_bd (fun r5 hr5 => ?_)
    refine tw_c_X5_clear X dX10_renew_36 _ tw_w534 tw_kc36 hr5 (tw_le hfr rfl) (tw_le hlo rfl) hcs (Nat.le_of_ble_eq_true rfl) trivial ?_
    refine r_iconst X dX10_renew_39 (v := (0 : Int32)) (by decide) ?_
    refine r_istore_n X dX10_renew_40 rfl (by decide) (LL := fun v6 => [(1, .int v6), (0, .ref (tw_zB z + 33))]) (fun _ => rfl) (fun v6 => ?_)
    refine r_lp (α := Int32 × tw_Sg) (σJ := fun a7 => a7.2) (pcJ := 41) (LJ := fun a7 => [(1, .int a7.1), (0, .ref (tw_zB z + 33))]) (stJ := fun a7 => []) (fun k8 hk8 a7 => ?_) n (v6, r5)
    refine r_iload_n X dX10_renew_41 rfl 0 rfl ?_
    refine r_aload_n X dX10_renew_42 rfl 1 rfl ?_
    refine tw_g10_0 (k := 33) (v := .ref (tw_zB z + 1)) X dX10_renew_43 _ tw_w288 tw_kc33 rfl ?_
    refine tw_g2_9N (k := 1) (v := .ref (tw_zB z + 14)) X dX10_renew_46 _ tw_w194 tw_kc1 rfl ?_
    refine tw_g1_0N (k := 14) (v := .int (a7.2 14 0)) X dX10_renew_49 _ tw_w115 tw_kc14 rfl ?_
    refine r_icmp_ge X dX10_renew_52 (tgt := 66) (by decide) ?_ ?_
    ·
      exact r_vret X dX10_renew_66 hret hQ rfl
    ·
      refine r_aload_n X dX10_renew_55 rfl 1 rfl ?_
      refine r_iload_n X dX10_renew_56 rfl 0 rfl ?_
      refine r_bd (fun r9 hr9 => ?_)
      refine tw_c_X10_follow X dX10_renew_57 _ tw_w543  hr9 (tw_le hfr rfl) (tw_le hlo rfl) hcs (Nat.le_of_ble_eq_true rfl) trivial ?_
      refine r_iinc X dX10_renew_60 0 rfl (v := (1 : Int32)) (by decide) (by decide) (LL := fun v10 => [(1, .int v10), (0, .ref (tw_zB z + 33))]) (fun _ => rfl) (fun v10 => ?_)
      refine r_goto X dX10_renew_63 (tgt := 41) (by decide) ?_
      exact hk8 (v10, r9)
  ·
    refine r_aload_n X dX10_renew_21 rfl 1 rfl ?_
    refine r_iload_n X dX10_renew_22 rfl 0 rfl ?_
    refine r_bd (fun r11 hr11 => ?_)
    refine tw_c_X10_twist X dX10_renew_23 _ tw_w513  hr11 (tw_le hfr rfl) (tw_le hlo rfl) hcs (Nat.le_of_ble_eq_true rfl) trivial ?_
    refine r_iinc X dX10_renew_26 0 rfl (v := (1 : Int32)) (by decide) (by decide) (LL := fun v12 => [(1, .int v12), (0, .ref (tw_zB z + 33))]) (fun _ => rfl) (fun v12 => ?_)
    refine r_goto X dX10_renew_29 (tgt := 10) (by decide) ?_
    exact hk4 (v12, r11)
theorem tw_c_X10_renew {ρ : Type} {z : tw_Z} {cc : ByteArray} {own : String} {nL pc : Nat} {σ : tw_Sg} {L : List (Nat × Value)} {st : List Value} {ix : Nat} {n : Nat}  (X : tw_X z cc own nL) (d : decode cc pc = .ok (.invokevirtual ix, 3)) (i : Nat) (hi : lw_tbl[i]? = some (.methodLink own ix yX10_renew))  {res : ρ} {E : Option ρ} {r : tw_Sg} (h : tw_P_X10_renew n σ = some r) (h1 : 6 ≤ (tw_zR z).frames) (h2 : 141 ≤ (tw_zR z).locals) (hcs : tw_zcells z ≤ (tw_zR z).cells ∧ tw_zslots z ≤ (tw_zR z).slots) (hst : (st.map fun v => v.category).sum ≤ 8) (_ : True) (kk : tw_Rf z res E r (pc + 3) L (st)) : tw_Rf z res E σ pc L (.ref (tw_zB z + 33) :: st) := r_callV (As := []) X d (tw_m_X10_renew  h) tw_y_X10_renew tw_v_X10_renew i hi rfl (tw_kd_lt tw_kc33 (by decide)) (tw_E10 tw_kc33) rfl ⟨rfl, rfl, h1, h2⟩ hcs hst rfl kk
def tw_P_X10_fewestPaces (n : Nat) (x0 : Int32) (x1 : Int32) (x2 : Int32) (σ : tw_Sg) : Option (Int32) :=
tw_lt ((x0 * (8 : Int32)) + x1) (fun (v1 : Int32) =>
tw_bd (tw_P_X7_get 29 v1 σ) (fun r2 =>
tw_lt r2 (fun (v3 : Int32) =>
tw_lt x2 (fun (v4 : Int32) =>
tw_lt (0 : Int32) (fun (v5 : Int32) =>
tw_lp (fun (k7 : (Int32 × Int32) → Option (Int32)) (a6 : Int32 × Int32) =>
tw_jn (fun (a8 : Unit) =>
some (-1 : Int32)) (fun (j9 : (Unit) → Option (Int32)) =>
if v3 < a6.2 then (j9 ())
else (if a6.1 = 0 then (j9 ())
else (tw_bd (tw_P_X5_at 112 (x1 + (1 : Int32)) σ) (fun r10 =>
tw_ck (decide (tw_kd r10 = 0)) (
tw_bd (tw_P_X0_has r10 a6.1 σ) (fun r12 =>
tw_jn (fun (a13 : Unit) =>
tw_bd (tw_P_X7_get 25 v1 σ) (fun r15 =>
tw_bd (tw_P_X10_step a6.1 r15 σ) (fun r16 =>
tw_lt r16 (fun (v17 : Int32) =>
tw_lt (a6.2 + (1 : Int32)) (fun (v18 : Int32) =>
k7 (v17, v18)))))) (fun (j14 : (Unit) → Option (Int32)) =>
if r12 = 0 then (j14 ())
else (tw_bd (tw_P_X10_canEnd v1 a6.1 a6.2 σ) (fun r19 =>
if r19 = 0 then (j14 ())
else (some a6.2))))))))))) n (v4, v5))))))
theorem tw_y_X10_fewestPaces : tw_My yX10_fewestPaces cX10_fewestPaces 8 (some .int) 3 := ⟨List.mem_of_getElem? tw_w1117, List.mem_of_getElem? tw_w42, by decide +kernel, by decide +kernel, by decide +kernel⟩
theorem tw_v_X10_fewestPaces : tw_Mv yX10_fewestPaces "TreasureWalk$Trails" := ⟨List.mem_of_getElem? tw_w1116, List.mem_of_getElem? tw_w31, rfl⟩
set_option maxRecDepth 100000 in
set_option maxHeartbeats 4000000 in
theorem tw_m_X10_fewestPaces {l : Launch} {B : Nat} {D : tw_G} {C : Nat → ClassId} {S : Nat → Nat} {n : Nat} {x0 : Int32} {x1 : Int32} {x2 : Int32} {σ : tw_Sg}  {r : Int32} (h : tw_P_X10_fewestPaces n x0 x1 x2 σ = some r) : tw_Met l B D C S yX10_fewestPaces cX10_fewestPaces 8 (some .int) ({ frames := 3, cells := 0, slots := 0, locals := 70 } : Room) [.ref (B + 33), .int x0, .int x1, .int x2] σ (some (.int r)) σ := by
  refine tw_metOfP (tw_P_X10_fewestPaces n x0 x1 x2 σ) r h (fun r => (some (.int r), σ)) (by decide +kernel) (Nat.le_of_ble_eq_true rfl) ⟨rfl, rfl⟩ ?_
  intro z el eB eD eC eS hfr hlo hcs X hret hQ
  subst el eB eD eC eS
  have X : tw_X z cX10_fewestPaces "TreasureWalk$Trails" 8 := X
  show tw_Rf z r _ σ 0 [(0, .ref (tw_zB z + 33)), (1, .int x0), (2, .int x1), (3, .int x2)] []
  unfold tw_P_X10_fewestPaces
  refine r_iload_n X dX10_fewestPaces_0 rfl 1 rfl ?_
  refine r_bipush X dX10_fewestPaces_1 (v := (8 : Int32)) (by decide) ?_
  refine r_imul X dX10_fewestPaces_3 ?_
  refine r_iload_n X dX10_fewestPaces_4 rfl 2 rfl ?_
  refine r_iadd X dX10_fewestPaces_5 ?_
  refine r_istore X dX10_fewestPaces_6 (by decide) (LL := fun v1 => [(4, .int v1), (0, .ref (tw_zB z + 33)), (1, .int x0), (2, .int x1), (3, .int x2)]) (fun _ => rfl) (fun v1 => ?_)
  refine r_aload_n X dX10_fewestPaces_8 rfl 1 rfl ?_
  refine tw_g10_0 (k := 33) (v := .ref (tw_zB z + 1)) X dX10_fewestPaces_9 _ tw_w288 tw_kc33 rfl ?_
  refine tw_g2_9N (k := 1) (v := .ref (tw_zB z + 14)) X dX10_fewestPaces_12 _ tw_w194 tw_kc1 rfl ?_
  refine tw_g1_8N (k := 14) (v := .ref (tw_zB z + 29)) X dX10_fewestPaces_15 _ tw_w138 tw_kc14 rfl ?_
  refine r_iload X dX10_fewestPaces_18 0 rfl ?_
  refine r_bd (fun r2 hr2 => ?_)
  refine tw_c_X7_get X dX10_fewestPaces_20 _ tw_w517 tw_kc29 hr2 (tw_le hfr rfl) (tw_le hlo rfl) hcs (Nat.le_of_ble_eq_true rfl) trivial ?_
  refine r_istore X dX10_fewestPaces_23 (by decide) (LL := fun v3 => [(5, .int v3), (4, .int v1), (0, .ref (tw_zB z + 33)), (1, .int x0), (2, .int x1), (3, .int x2)]) (fun _ => rfl) (fun v3 => ?_)
  refine r_iload_n X dX10_fewestPaces_25 rfl 5 rfl ?_
  refine r_istore X dX10_fewestPaces_26 (by decide) (LL := fun v4 => [(6, .int v4), (5, .int v3), (4, .int v1), (0, .ref (tw_zB z + 33)), (1, .int x0), (2, .int x1), (3, .int x2)]) (fun _ => rfl) (fun v4 => ?_)
  refine r_iconst X dX10_fewestPaces_28 (v := (0 : Int32)) (by decide) ?_
  refine r_istore X dX10_fewestPaces_29 (by decide) (LL := fun v5 => [(7, .int v5), (6, .int v4), (5, .int v3), (4, .int v1), (0, .ref (tw_zB z + 33)), (1, .int x0), (2, .int x1), (3, .int x2)]) (fun _ => rfl) (fun v5 => ?_)
  refine tw_Rf.sub [0, 1, 2, 3, 4, 6] rfl ?_
  refine r_lp (α := Int32 × Int32) (σJ := fun a6 => σ) (pcJ := 31) (LJ := fun a6 => [(7, .int a6.2), (6, .int a6.1), (5, .int v3), (4, .int v1), (0, .ref (tw_zB z + 33)), (2, .int x1)]) (stJ := fun a6 => []) (fun k7 hk7 a6 => ?_) n (v4, v5)
  refine r_iload X dX10_fewestPaces_31 0 rfl ?_
  refine r_iload X dX10_fewestPaces_33 2 rfl ?_
  refine r_jn (α := Unit) (σJ := fun a8 => σ) (pcJ := 106) (LJ := fun a8 => []) (stJ := fun a8 => []) (ok := fun a8 => True) (fun a8 hoka8 => ?_) (fun j9 hj9 => ?_)
  ·
    refine r_iconst X dX10_fewestPaces_106 (v := (-1 : Int32)) (by decide) ?_
    exact r_iret X dX10_fewestPaces_107 hret hQ rfl
  refine r_icmp_gt X dX10_fewestPaces_35 (tgt := 106) (by decide) ?_ ?_
  ·
    exact tw_Rf.sub [] rfl (hj9 () trivial)
  ·
    refine r_iload X dX10_fewestPaces_38 1 rfl ?_
    refine r_if_eq X dX10_fewestPaces_40 (tgt := 106) (by decide) ?_ ?_
    ·
      exact tw_Rf.sub [] rfl (hj9 () trivial)
    ·
      refine r_aload_n X dX10_fewestPaces_43 rfl 4 rfl ?_
      refine tw_g10_3 (k := 33) (v := .ref (tw_zB z + 112)) X dX10_fewestPaces_44 _ tw_w291 tw_kc33 rfl ?_
      refine r_iload_n X dX10_fewestPaces_47 rfl 5 rfl ?_
      refine r_iconst X dX10_fewestPaces_48 (v := (1 : Int32)) (by decide) ?_
      refine r_iadd X dX10_fewestPaces_49 ?_
      refine r_bd (fun r10 hr10 => ?_)
      refine tw_c_X5_at X dX10_fewestPaces_50 _ tw_w551 tw_kc112 hr10 (tw_le hfr rfl) (tw_le hlo rfl) hcs (Nat.le_of_ble_eq_true rfl) trivial ?_
      refine r_ck (fun h11 => ?_)
      refine r_iload X dX10_fewestPaces_53 1 rfl ?_
      refine r_bd (fun r12 hr12 => ?_)
      refine tw_c_X0_has X dX10_fewestPaces_55 _ tw_w562 (of_decide_eq_true h11) hr12 (tw_le hfr rfl) (tw_le hlo rfl) hcs (Nat.le_of_ble_eq_true rfl) trivial ?_
      refine r_jn (α := Unit) (σJ := fun a13 => σ) (pcJ := 77) (LJ := fun a13 => [(7, .int a6.2), (6, .int a6.1), (5, .int v3), (4, .int v1), (0, .ref (tw_zB z + 33)), (2, .int x1)]) (stJ := fun a13 => []) (ok := fun a13 => True) (fun a13 hoka13 => ?_) (fun j14 hj14 => ?_)
      ·
        refine r_aload_n X dX10_fewestPaces_77 rfl 4 rfl ?_
        refine r_iload X dX10_fewestPaces_78 1 rfl ?_
        refine r_aload_n X dX10_fewestPaces_80 rfl 4 rfl ?_
        refine tw_g10_0 (k := 33) (v := .ref (tw_zB z + 1)) X dX10_fewestPaces_81 _ tw_w288 tw_kc33 rfl ?_
        refine tw_g2_9N (k := 1) (v := .ref (tw_zB z + 14)) X dX10_fewestPaces_84 _ tw_w194 tw_kc1 rfl ?_
        refine tw_g1_6N (k := 14) (v := .ref (tw_zB z + 25)) X dX10_fewestPaces_87 _ tw_w132 tw_kc14 rfl ?_
        refine r_iload X dX10_fewestPaces_90 3 rfl ?_
        refine r_bd (fun r15 hr15 => ?_)
        refine tw_c_X7_get X dX10_fewestPaces_92 _ tw_w517 tw_kc25 hr15 (tw_le hfr rfl) (tw_le hlo rfl) hcs (Nat.le_of_ble_eq_true rfl) trivial ?_
        refine r_bd (fun r16 hr16 => ?_)
        refine tw_c_X10_step X dX10_fewestPaces_95 _ tw_w571  hr16 (tw_le hfr rfl) (tw_le hlo rfl) hcs (Nat.le_of_ble_eq_true rfl) trivial ?_
        refine r_istore X dX10_fewestPaces_98 (by decide) (LL := fun v17 => [(6, .int v17), (7, .int a6.2), (5, .int v3), (4, .int v1), (0, .ref (tw_zB z + 33)), (2, .int x1)]) (fun _ => rfl) (fun v17 => ?_)
        refine r_iinc X dX10_fewestPaces_100 1 rfl (v := (1 : Int32)) (by decide) (by decide) (LL := fun v18 => [(7, .int v18), (6, .int v17), (5, .int v3), (4, .int v1), (0, .ref (tw_zB z + 33)), (2, .int x1)]) (fun _ => rfl) (fun v18 => ?_)
        refine r_goto X dX10_fewestPaces_103 (tgt := 31) (by decide) ?_
        exact hk7 (v17, v18)
      refine r_if_eq X dX10_fewestPaces_58 (tgt := 77) (by decide) ?_ ?_
      ·
        exact hj14 () trivial
      ·
        refine r_aload_n X dX10_fewestPaces_61 rfl 4 rfl ?_
        refine r_iload X dX10_fewestPaces_62 3 rfl ?_
        refine r_iload X dX10_fewestPaces_64 1 rfl ?_
        refine r_iload X dX10_fewestPaces_66 0 rfl ?_
        refine r_bd (fun r19 hr19 => ?_)
        refine tw_c_X10_canEnd X dX10_fewestPaces_68 _ tw_w567  hr19 (tw_le hfr rfl) (tw_le hlo rfl) hcs (Nat.le_of_ble_eq_true rfl) trivial ?_
        refine r_if_eq X dX10_fewestPaces_71 (tgt := 77) (by decide) ?_ ?_
        ·
          exact hj14 () trivial
        ·
          refine r_iload X dX10_fewestPaces_74 0 rfl ?_
          exact r_iret X dX10_fewestPaces_76 hret hQ rfl
theorem tw_c_X10_fewestPaces {ρ : Type} {z : tw_Z} {cc : ByteArray} {own : String} {nL pc : Nat} {σ : tw_Sg} {L : List (Nat × Value)} {st : List Value} {ix : Nat} {n : Nat} {x0 : Int32} {x1 : Int32} {x2 : Int32} (X : tw_X z cc own nL) (d : decode cc pc = .ok (.invokevirtual ix, 3)) (i : Nat) (hi : lw_tbl[i]? = some (.methodLink own ix yX10_fewestPaces))  {res : ρ} {E : Option ρ} {r : Int32} (h : tw_P_X10_fewestPaces n x0 x1 x2 σ = some r) (h1 : 4 ≤ (tw_zR z).frames) (h2 : 97 ≤ (tw_zR z).locals) (hcs : tw_zcells z ≤ (tw_zR z).cells ∧ tw_zslots z ≤ (tw_zR z).slots) (hst : (st.map fun v => v.category).sum ≤ 8) (_ : True) (kk : tw_Rf z res E σ (pc + 3) L (.int r :: st)) : tw_Rf z res E σ pc L (.int x2 :: .int x1 :: .int x0 :: .ref (tw_zB z + 33) :: st) := r_callV (As := [.int x0, .int x1, .int x2]) X d (tw_m_X10_fewestPaces  h) tw_y_X10_fewestPaces tw_v_X10_fewestPaces i hi rfl (tw_kd_lt tw_kc33 (by decide)) (tw_E10 tw_kc33) rfl ⟨rfl, rfl, h1, h2⟩ hcs hst rfl kk
def tw_P_X10_findWays (n : Nat) (x0 : Int32) (x1 : Int32) (σ : tw_Sg) : Option (tw_Sg) :=
tw_bd (tw_P_X7_get 21 x0 σ) (fun r1 =>
tw_lt r1 (fun (v2 : Int32) =>
tw_bd (tw_P_X5_clear n 112 σ) (fun r3 =>
tw_bd (tw_P_X5_at 112 v2 r3) (fun r4 =>
tw_ck (decide (tw_kd r4 = 0)) (
tw_bd (tw_P_X0_add r4 x1 r3) (fun r6 =>
tw_lt (v2 - (1 : Int32)) (fun (v7 : Int32) =>
tw_lp (fun (k9 : (Int32 × tw_Sg) → Option (tw_Sg)) (a8 : Int32 × tw_Sg) =>
if a8.1 < 0 then (some a8.2)
else (tw_lt (0 : Int32) (fun (v10 : Int32) =>
tw_lp (fun (k12 : (Int32 × Int32 × tw_Sg) → Option (tw_Sg)) (a11 : Int32 × Int32 × tw_Sg) =>
if (704 : Int32) ≤ a11.2.1 then (tw_lt (a11.1 + (-1 : Int32)) (fun (v13 : Int32) =>
k9 (v13, a11.2.2)))
else (tw_bd (tw_P_X10_layer x0 a11.1 a11.2.2) (fun r14 =>
tw_ck (decide (tw_kd r14 = 0)) (
tw_bd (tw_P_X0_has r14 a11.2.1 a11.2.2) (fun r16 =>
tw_jn (fun (a17 : tw_Sg) =>
tw_lt (a11.2.1 + (1 : Int32)) (fun (v19 : Int32) =>
k12 (a11.1, v19, a17))) (fun (j18 : (tw_Sg) → Option (tw_Sg)) =>
if r16 = 0 then (j18 a11.2.2)
else (tw_bd (tw_P_X10_fewestPaces n x0 a11.1 a11.2.1 a11.2.2) (fun r20 =>
if r20 < 0 then (j18 a11.2.2)
else (tw_bd (tw_P_X5_at 112 a11.1 a11.2.2) (fun r21 =>
tw_ck (decide (tw_kd r21 = 0)) (
tw_bd (tw_P_X0_add r21 a11.2.1 a11.2.2) (fun r23 =>
j18 r23)))))))))))) n (a8.1, v10, a8.2)))) n (v7, r6))))))))
theorem tw_y_X10_findWays : tw_My yX10_findWays cX10_findWays 6 none 2 := ⟨List.mem_of_getElem? tw_w1113, List.mem_of_getElem? tw_w42, by decide +kernel, by decide +kernel, by decide +kernel⟩
theorem tw_v_X10_findWays : tw_Mv yX10_findWays "TreasureWalk$Trails" := ⟨List.mem_of_getElem? tw_w1112, List.mem_of_getElem? tw_w30, rfl⟩
set_option maxRecDepth 100000 in
set_option maxHeartbeats 4000000 in
theorem tw_m_X10_findWays {l : Launch} {B : Nat} {D : tw_G} {C : Nat → ClassId} {S : Nat → Nat} {n : Nat} {x0 : Int32} {x1 : Int32} {σ : tw_Sg}  {r : tw_Sg} (h : tw_P_X10_findWays n x0 x1 σ = some r) : tw_Met l B D C S yX10_findWays cX10_findWays 6 none ({ frames := 4, cells := 0, slots := 0, locals := 97 } : Room) [.ref (B + 33), .int x0, .int x1] σ (none) r := by
  refine tw_metOfP (tw_P_X10_findWays n x0 x1 σ) r h (fun r => (none, r)) (by decide +kernel) (Nat.le_of_ble_eq_true rfl) ⟨rfl, rfl⟩ ?_
  intro z el eB eD eC eS hfr hlo hcs X hret hQ
  subst el eB eD eC eS
  have X : tw_X z cX10_findWays "TreasureWalk$Trails" 6 := X
  show tw_Rf z r _ σ 0 [(0, .ref (tw_zB z + 33)), (1, .int x0), (2, .int x1)] []
  unfold tw_P_X10_findWays
  refine r_aload_n X dX10_findWays_0 rfl 0 rfl ?_
  refine tw_g10_0 (k := 33) (v := .ref (tw_zB z + 1)) X dX10_findWays_1 _ tw_w288 tw_kc33 rfl ?_
  refine tw_g2_9N (k := 1) (v := .ref (tw_zB z + 14)) X dX10_findWays_4 _ tw_w194 tw_kc1 rfl ?_
  refine tw_g1_4N (k := 14) (v := .ref (tw_zB z + 21)) X dX10_findWays_7 _ tw_w125 tw_kc14 rfl ?_
  refine r_iload_n X dX10_findWays_10 rfl 1 rfl ?_
  refine r_bd (fun r1 hr1 => ?_)
  refine tw_c_X7_get X dX10_findWays_11 _ tw_w517 tw_kc21 hr1 (tw_le hfr rfl) (tw_le hlo rfl) hcs (Nat.le_of_ble_eq_true rfl) trivial ?_
  refine r_istore_n X dX10_findWays_14 rfl (by decide) (LL := fun v2 => [(3, .int v2), (0, .ref (tw_zB z + 33)), (1, .int x0), (2, .int x1)]) (fun _ => rfl) (fun v2 => ?_)
  refine r_aload_n X dX10_findWays_15 rfl 1 rfl ?_
  refine tw_g10_3 (k := 33) (v := .ref (tw_zB z + 112)) X dX10_findWays_16 _ tw_w291 tw_kc33 rfl ?_
  refine r_bd (fun r3 hr3 => ?_)
  refine tw_c_X5_clear X dX10_findWays_19 _ tw_w534 tw_kc112 hr3 (tw_le hfr rfl) (tw_le hlo rfl) hcs (Nat.le_of_ble_eq_true rfl) trivial ?_
  refine r_aload_n X dX10_findWays_22 rfl 1 rfl ?_
  refine tw_g10_3 (k := 33) (v := .ref (tw_zB z + 112)) X dX10_findWays_23 _ tw_w291 tw_kc33 rfl ?_
  refine r_iload_n X dX10_findWays_26 rfl 0 rfl ?_
  refine r_bd (fun r4 hr4 => ?_)
  refine tw_c_X5_at X dX10_findWays_27 _ tw_w551 tw_kc112 hr4 (tw_le hfr rfl) (tw_le hlo rfl) hcs (Nat.le_of_ble_eq_true rfl) trivial ?_
  refine r_ck (fun h5 => ?_)
  refine r_iload_n X dX10_findWays_30 rfl 3 rfl ?_
  refine r_bd (fun r6 hr6 => ?_)
  refine tw_c_X0_add X dX10_findWays_31 _ tw_w561 (of_decide_eq_true h5) hr6 (tw_le hfr rfl) (tw_le hlo rfl) hcs (Nat.le_of_ble_eq_true rfl) trivial ?_
  refine r_iload_n X dX10_findWays_34 rfl 0 rfl ?_
  refine r_iconst X dX10_findWays_35 (v := (1 : Int32)) (by decide) ?_
  refine r_isub X dX10_findWays_36 ?_
  refine r_istore X dX10_findWays_37 (by decide) (LL := fun v7 => [(4, .int v7), (3, .int v2), (0, .ref (tw_zB z + 33)), (1, .int x0), (2, .int x1)]) (fun _ => rfl) (fun v7 => ?_)
  refine tw_Rf.sub [0, 2, 3] rfl ?_
  refine r_lp (α := Int32 × tw_Sg) (σJ := fun a8 => a8.2) (pcJ := 39) (LJ := fun a8 => [(4, .int a8.1), (0, .ref (tw_zB z + 33)), (1, .int x0)]) (stJ := fun a8 => []) (fun k9 hk9 a8 => ?_) n (v7, r6)
  refine r_iload X dX10_findWays_39 0 rfl ?_
  refine r_if_lt X dX10_findWays_41 (tgt := 108) (by decide) ?_ ?_
  ·
    exact r_vret X dX10_findWays_108 hret hQ rfl
  ·
    refine r_iconst X dX10_findWays_44 (v := (0 : Int32)) (by decide) ?_
    refine r_istore X dX10_findWays_45 (by decide) (LL := fun v10 => [(5, .int v10), (4, .int a8.1), (0, .ref (tw_zB z + 33)), (1, .int x0)]) (fun _ => rfl) (fun v10 => ?_)
    refine r_lp (α := Int32 × Int32 × tw_Sg) (σJ := fun a11 => a11.2.2) (pcJ := 47) (LJ := fun a11 => [(5, .int a11.2.1), (4, .int a11.1), (0, .ref (tw_zB z + 33)), (1, .int x0)]) (stJ := fun a11 => []) (fun k12 hk12 a11 => ?_) n (a8.1, v10, a8.2)
    refine r_iload X dX10_findWays_47 0 rfl ?_
    refine r_sipush X dX10_findWays_49 (v := (704 : Int32)) (by decide) ?_
    refine r_icmp_ge X dX10_findWays_52 (tgt := 102) (by decide) ?_ ?_
    ·
      refine r_iinc X dX10_findWays_102 1 rfl (v := (-1 : Int32)) (by decide) (by decide) (LL := fun v13 => [(4, .int v13), (5, .int a11.2.1), (0, .ref (tw_zB z + 33)), (1, .int x0)]) (fun _ => rfl) (fun v13 => ?_)
      refine r_goto X dX10_findWays_105 (tgt := 39) (by decide) ?_
      exact tw_Rf.sub [0, 2, 3] rfl (hk9 (v13, a11.2.2))
    ·
      refine r_aload_n X dX10_findWays_55 rfl 2 rfl ?_
      refine r_iload_n X dX10_findWays_56 rfl 3 rfl ?_
      refine r_iload X dX10_findWays_57 1 rfl ?_
      refine r_bd (fun r14 hr14 => ?_)
      refine tw_c_X10_layer X dX10_findWays_59 _ tw_w547  hr14 (tw_le hfr rfl) (tw_le hlo rfl) hcs (Nat.le_of_ble_eq_true rfl) trivial ?_
      refine r_ck (fun h15 => ?_)
      refine r_iload X dX10_findWays_62 0 rfl ?_
      refine r_bd (fun r16 hr16 => ?_)
      refine tw_c_X0_has X dX10_findWays_64 _ tw_w562 (of_decide_eq_true h15) hr16 (tw_le hfr rfl) (tw_le hlo rfl) hcs (Nat.le_of_ble_eq_true rfl) trivial ?_
      refine r_jn (α := tw_Sg) (σJ := fun a17 => a17) (pcJ := 96) (LJ := fun a17 => [(5, .int a11.2.1), (4, .int a11.1), (0, .ref (tw_zB z + 33)), (1, .int x0)]) (stJ := fun a17 => []) (ok := fun a17 => True) (fun a17 hoka17 => ?_) (fun j18 hj18 => ?_)
      ·
        refine r_iinc X dX10_findWays_96 0 rfl (v := (1 : Int32)) (by decide) (by decide) (LL := fun v19 => [(5, .int v19), (4, .int a11.1), (0, .ref (tw_zB z + 33)), (1, .int x0)]) (fun _ => rfl) (fun v19 => ?_)
        refine r_goto X dX10_findWays_99 (tgt := 47) (by decide) ?_
        exact hk12 (a11.1, v19, a17)
      refine r_if_eq X dX10_findWays_67 (tgt := 96) (by decide) ?_ ?_
      ·
        exact hj18 a11.2.2 trivial
      ·
        refine r_aload_n X dX10_findWays_70 rfl 2 rfl ?_
        refine r_iload_n X dX10_findWays_71 rfl 3 rfl ?_
        refine r_iload X dX10_findWays_72 1 rfl ?_
        refine r_iload X dX10_findWays_74 0 rfl ?_
        refine r_bd (fun r20 hr20 => ?_)
        refine tw_c_X10_fewestPaces X dX10_findWays_76 _ tw_w1114  hr20 (tw_le hfr rfl) (tw_le hlo rfl) hcs (Nat.le_of_ble_eq_true rfl) trivial ?_
        refine r_if_lt X dX10_findWays_79 (tgt := 96) (by decide) ?_ ?_
        ·
          exact hj18 a11.2.2 trivial
        ·
          refine r_aload_n X dX10_findWays_82 rfl 2 rfl ?_
          refine tw_g10_3 (k := 33) (v := .ref (tw_zB z + 112)) X dX10_findWays_83 _ tw_w291 tw_kc33 rfl ?_
          refine r_iload X dX10_findWays_86 1 rfl ?_
          refine r_bd (fun r21 hr21 => ?_)
          refine tw_c_X5_at X dX10_findWays_88 _ tw_w551 tw_kc112 hr21 (tw_le hfr rfl) (tw_le hlo rfl) hcs (Nat.le_of_ble_eq_true rfl) trivial ?_
          refine r_ck (fun h22 => ?_)
          refine r_iload X dX10_findWays_91 0 rfl ?_
          refine r_bd (fun r23 hr23 => ?_)
          refine tw_c_X0_add X dX10_findWays_93 _ tw_w561 (of_decide_eq_true h22) hr23 (tw_le hfr rfl) (tw_le hlo rfl) hcs (Nat.le_of_ble_eq_true rfl) trivial ?_
          exact hj18 r23 trivial
theorem tw_c_X10_findWays {ρ : Type} {z : tw_Z} {cc : ByteArray} {own : String} {nL pc : Nat} {σ : tw_Sg} {L : List (Nat × Value)} {st : List Value} {ix : Nat} {n : Nat} {x0 : Int32} {x1 : Int32} (X : tw_X z cc own nL) (d : decode cc pc = .ok (.invokevirtual ix, 3)) (i : Nat) (hi : lw_tbl[i]? = some (.methodLink own ix yX10_findWays))  {res : ρ} {E : Option ρ} {r : tw_Sg} (h : tw_P_X10_findWays n x0 x1 σ = some r) (h1 : 5 ≤ (tw_zR z).frames) (h2 : 122 ≤ (tw_zR z).locals) (hcs : tw_zcells z ≤ (tw_zR z).cells ∧ tw_zslots z ≤ (tw_zR z).slots) (hst : (st.map fun v => v.category).sum ≤ 8) (_ : True) (kk : tw_Rf z res E r (pc + 3) L (st)) : tw_Rf z res E σ pc L (.int x1 :: .int x0 :: .ref (tw_zB z + 33) :: st) := r_callV (As := [.int x0, .int x1]) X d (tw_m_X10_findWays  h) tw_y_X10_findWays tw_v_X10_findWays i hi rfl (tw_kd_lt tw_kc33 (by decide)) (tw_E10 tw_kc33) rfl ⟨rfl, rfl, h1, h2⟩ hcs hst rfl kk
def tw_P_X10_countStarts (n : Nat) (x0 : Int32) (x1 : Int32) (σ : tw_Sg) : Option (Int32 × tw_Sg) :=
tw_bd (tw_P_X10_findWays n x0 x1 σ) (fun r1 =>
tw_lt (0 : Int32) (fun (v2 : Int32) =>
tw_lt (0 : Int32) (fun (v3 : Int32) =>
tw_lp (fun (k5 : (Int32 × Int32) → Option (Int32 × tw_Sg)) (a4 : Int32 × Int32) =>
tw_bd (tw_P_X7_get 17 x0 r1) (fun r6 =>
if r6 ≤ a4.2 then (some (a4.1, r1))
else (tw_bd (tw_P_X5_at 112 (0 : Int32) r1) (fun r7 =>
tw_ck (decide (tw_kd r7 = 0)) (
tw_bd (tw_P_X10_startSpot x0 a4.2 r1) (fun r9 =>
tw_bd (tw_P_X0_has r7 r9 r1) (fun r10 =>
tw_jn (fun (a11 : Int32) =>
tw_lt (a4.1 + a11) (fun (v13 : Int32) =>
tw_lt (a4.2 + (1 : Int32)) (fun (v14 : Int32) =>
k5 (v13, v14)))) (fun (j12 : (Int32) → Option (Int32 × tw_Sg)) =>
if r10 = 0 then (j12 (0 : Int32))
else (j12 (1 : Int32)))))))))) n (v2, v3))))
theorem tw_y_X10_countStarts : tw_My yX10_countStarts cX10_countStarts 5 (some .int) 2 := ⟨List.mem_of_getElem? tw_w1137, List.mem_of_getElem? tw_w42, by decide +kernel, by decide +kernel, by decide +kernel⟩
theorem tw_v_X10_countStarts : tw_Mv yX10_countStarts "TreasureWalk$Trails" := ⟨List.mem_of_getElem? tw_w1135, List.mem_of_getElem? tw_w1136, rfl⟩
set_option maxRecDepth 100000 in
set_option maxHeartbeats 4000000 in
theorem tw_m_X10_countStarts {l : Launch} {B : Nat} {D : tw_G} {C : Nat → ClassId} {S : Nat → Nat} {n : Nat} {x0 : Int32} {x1 : Int32} {σ : tw_Sg}  {r : Int32 × tw_Sg} (h : tw_P_X10_countStarts n x0 x1 σ = some r) : tw_Met l B D C S yX10_countStarts cX10_countStarts 5 (some .int) ({ frames := 5, cells := 0, slots := 0, locals := 122 } : Room) [.ref (B + 33), .int x0, .int x1] σ (some (.int r.1)) r.2 := by
  refine tw_metOfP (tw_P_X10_countStarts n x0 x1 σ) r h (fun r => (some (.int r.1), r.2)) (by decide +kernel) (Nat.le_of_ble_eq_true rfl) ⟨rfl, rfl⟩ ?_
  intro z el eB eD eC eS hfr hlo hcs X hret hQ
  subst el eB eD eC eS
  have X : tw_X z cX10_countStarts "TreasureWalk$Trails" 5 := X
  show tw_Rf z r _ σ 0 [(0, .ref (tw_zB z + 33)), (1, .int x0), (2, .int x1)] []
  unfold tw_P_X10_countStarts
  refine r_aload_n X dX10_countStarts_0 rfl 0 rfl ?_
  refine r_iload_n X dX10_countStarts_1 rfl 1 rfl ?_
  refine r_iload_n X dX10_countStarts_2 rfl 2 rfl ?_
  refine r_bd (fun r1 hr1 => ?_)
  refine tw_c_X10_findWays X dX10_countStarts_3 _ tw_w1110  hr1 (tw_le hfr rfl) (tw_le hlo rfl) hcs (Nat.le_of_ble_eq_true rfl) trivial ?_
  refine r_iconst X dX10_countStarts_6 (v := (0 : Int32)) (by decide) ?_
  refine r_istore_n X dX10_countStarts_7 rfl (by decide) (LL := fun v2 => [(3, .int v2), (0, .ref (tw_zB z + 33)), (1, .int x0), (2, .int x1)]) (fun _ => rfl) (fun v2 => ?_)
  refine r_iconst X dX10_countStarts_8 (v := (0 : Int32)) (by decide) ?_
  refine r_istore X dX10_countStarts_9 (by decide) (LL := fun v3 => [(4, .int v3), (3, .int v2), (0, .ref (tw_zB z + 33)), (1, .int x0), (2, .int x1)]) (fun _ => rfl) (fun v3 => ?_)
  refine tw_Rf.sub [0, 1, 2, 3] rfl ?_
  refine r_lp (α := Int32 × Int32) (σJ := fun a4 => r1) (pcJ := 11) (LJ := fun a4 => [(4, .int a4.2), (3, .int a4.1), (0, .ref (tw_zB z + 33)), (1, .int x0)]) (stJ := fun a4 => []) (fun k5 hk5 a4 => ?_) n (v2, v3)
  refine r_iload X dX10_countStarts_11 0 rfl ?_
  refine r_aload_n X dX10_countStarts_13 rfl 2 rfl ?_
  refine tw_g10_0 (k := 33) (v := .ref (tw_zB z + 1)) X dX10_countStarts_14 _ tw_w288 tw_kc33 rfl ?_
  refine tw_g2_9N (k := 1) (v := .ref (tw_zB z + 14)) X dX10_countStarts_17 _ tw_w194 tw_kc1 rfl ?_
  refine tw_g1_2N (k := 14) (v := .ref (tw_zB z + 17)) X dX10_countStarts_20 _ tw_w122 tw_kc14 rfl ?_
  refine r_iload_n X dX10_countStarts_23 rfl 3 rfl ?_
  refine r_bd (fun r6 hr6 => ?_)
  refine tw_c_X7_get X dX10_countStarts_24 _ tw_w517 tw_kc17 hr6 (tw_le hfr rfl) (tw_le hlo rfl) hcs (Nat.le_of_ble_eq_true rfl) trivial ?_
  refine r_icmp_ge X dX10_countStarts_27 (tgt := 65) (by decide) ?_ ?_
  ·
    refine r_iload_n X dX10_countStarts_65 rfl 1 rfl ?_
    exact r_iret X dX10_countStarts_66 hret hQ rfl
  ·
    refine r_iload_n X dX10_countStarts_30 rfl 1 rfl ?_
    refine r_aload_n X dX10_countStarts_31 rfl 2 rfl ?_
    refine tw_g10_3 (k := 33) (v := .ref (tw_zB z + 112)) X dX10_countStarts_32 _ tw_w291 tw_kc33 rfl ?_
    refine r_iconst X dX10_countStarts_35 (v := (0 : Int32)) (by decide) ?_
    refine r_bd (fun r7 hr7 => ?_)
    refine tw_c_X5_at X dX10_countStarts_36 _ tw_w551 tw_kc112 hr7 (tw_le hfr rfl) (tw_le hlo rfl) hcs (Nat.le_of_ble_eq_true rfl) trivial ?_
    refine r_ck (fun h8 => ?_)
    refine r_aload_n X dX10_countStarts_39 rfl 2 rfl ?_
    refine r_iload_n X dX10_countStarts_40 rfl 3 rfl ?_
    refine r_iload X dX10_countStarts_41 0 rfl ?_
    refine r_bd (fun r9 hr9 => ?_)
    refine tw_c_X10_startSpot X dX10_countStarts_43 _ tw_w552  hr9 (tw_le hfr rfl) (tw_le hlo rfl) hcs (Nat.le_of_ble_eq_true rfl) trivial ?_
    refine r_bd (fun r10 hr10 => ?_)
    refine tw_c_X0_has X dX10_countStarts_46 _ tw_w562 (of_decide_eq_true h8) hr10 (tw_le hfr rfl) (tw_le hlo rfl) hcs (Nat.le_of_ble_eq_true rfl) trivial ?_
    refine r_jn (α := Int32) (σJ := fun a11 => r1) (pcJ := 57) (LJ := fun a11 => [(4, .int a4.2), (0, .ref (tw_zB z + 33)), (1, .int x0)]) (stJ := fun a11 => [.int a11, .int a4.1]) (ok := fun a11 => True) (fun a11 hoka11 => ?_) (fun j12 hj12 => ?_)
    ·
      refine r_iadd X dX10_countStarts_57 ?_
      refine r_istore_n X dX10_countStarts_58 rfl (by decide) (LL := fun v13 => [(3, .int v13), (4, .int a4.2), (0, .ref (tw_zB z + 33)), (1, .int x0)]) (fun _ => rfl) (fun v13 => ?_)
      refine r_iinc X dX10_countStarts_59 1 rfl (v := (1 : Int32)) (by decide) (by decide) (LL := fun v14 => [(4, .int v14), (3, .int v13), (0, .ref (tw_zB z + 33)), (1, .int x0)]) (fun _ => rfl) (fun v14 => ?_)
      refine r_goto X dX10_countStarts_62 (tgt := 11) (by decide) ?_
      exact hk5 (v13, v14)
    refine r_if_eq X dX10_countStarts_49 (tgt := 56) (by decide) ?_ ?_
    ·
      refine r_iconst X dX10_countStarts_56 (v := (0 : Int32)) (by decide) ?_
      exact tw_Rf.sub [0, 2, 3] rfl (hj12 (0 : Int32) trivial)
    ·
      refine r_iconst X dX10_countStarts_52 (v := (1 : Int32)) (by decide) ?_
      refine r_goto X dX10_countStarts_53 (tgt := 57) (by decide) ?_
      exact tw_Rf.sub [0, 2, 3] rfl (hj12 (1 : Int32) trivial)
theorem tw_c_X10_countStarts {ρ : Type} {z : tw_Z} {cc : ByteArray} {own : String} {nL pc : Nat} {σ : tw_Sg} {L : List (Nat × Value)} {st : List Value} {ix : Nat} {n : Nat} {x0 : Int32} {x1 : Int32} (X : tw_X z cc own nL) (d : decode cc pc = .ok (.invokevirtual ix, 3)) (i : Nat) (hi : lw_tbl[i]? = some (.methodLink own ix yX10_countStarts))  {res : ρ} {E : Option ρ} {r : Int32 × tw_Sg} (h : tw_P_X10_countStarts n x0 x1 σ = some r) (h1 : 6 ≤ (tw_zR z).frames) (h2 : 146 ≤ (tw_zR z).locals) (hcs : tw_zcells z ≤ (tw_zR z).cells ∧ tw_zslots z ≤ (tw_zR z).slots) (hst : (st.map fun v => v.category).sum ≤ 8) (_ : True) (kk : tw_Rf z res E r.2 (pc + 3) L (.int r.1 :: st)) : tw_Rf z res E σ pc L (.int x1 :: .int x0 :: .ref (tw_zB z + 33) :: st) := r_callV (As := [.int x0, .int x1]) X d (tw_m_X10_countStarts  h) tw_y_X10_countStarts tw_v_X10_countStarts i hi rfl (tw_kd_lt tw_kc33 (by decide)) (tw_E10 tw_kc33) rfl ⟨rfl, rfl, h1, h2⟩ hcs hst rfl kk
