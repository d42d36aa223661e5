def tw_P_X8_left (n : Nat)  (σ : tw_Sg) : Option (Nat × tw_Sg) :=
tw_bd (tw_P_X8_candidates n σ) (fun r1 =>
tw_ck (decide (r1.1 = 140)) (
tw_bd (tw_P_X0_removeAll n 140 4 r1.2) (fun r3 =>
some (140, r3))))
theorem tw_y_X8_left : tw_My yX8_left cX8_left 1 (some (.object "TreasureWalk$Cells")) 0 := ⟨List.mem_of_getElem? tw_w528, List.mem_of_getElem? tw_w96, by decide +kernel, by decide +kernel, by decide +kernel⟩
theorem tw_v_X8_left : tw_Mv yX8_left "TreasureWalk$Survey" := ⟨List.mem_of_getElem? tw_w526, List.mem_of_getElem? tw_w527, rfl⟩
set_option maxRecDepth 100000 in
set_option maxHeartbeats 4000000 in
theorem tw_m_X8_left {l : Launch} {B : Nat} {D : va_G} {C : Nat → ClassId} {S : Nat → Nat} {n : Nat}  {σ : tw_Sg}  {r : Nat × tw_Sg} (h : tw_P_X8_left n σ = some r) : tw_Met l B D C S yX8_left cX8_left 1 (some (.object "TreasureWalk$Cells")) ({ frames := 3, cells := 0, slots := 0, locals := 102 } : Room) [.ref (B + 134)] σ (some (.ref (B + r.1))) r.2 := by
  refine tw_metOfP (tw_P_X8_left n σ) r h (fun r => (some (.ref (B + r.1)), r.2)) (by decide +kernel) (Nat.le_of_ble_eq_true rfl) ⟨rfl, rfl⟩ ?_
  intro z el eB eD eC eS hfr hlo hcs X hret hQ
  subst el eB eD eC eS
  have X : tw_X z cX8_left "TreasureWalk$Survey" 1 := X
  show tw_Rf z r _ σ 0 [(0, .ref (tw_zB z + 134))] []
  unfold tw_P_X8_left
  refine r_aload_n X dX8_left_0 rfl 0 rfl ?_
  refine r_bd (fun r1 hr1 => ?_)
  refine tw_c_X8_candidates X dX8_left_1 _ tw_w529  hr1 (tw_le hfr rfl) (tw_le hlo rfl) hcs (Nat.le_of_ble_eq_true rfl) trivial ?_
  refine r_ck (fun h2 => ?_)
  rw [(of_decide_eq_true h2 : r1.1 = 140)]
  refine r_aload_n X dX8_left_4 rfl 0 rfl ?_
  refine tw_g8_0 (k := 134) (v := .ref (tw_zB z + 1)) X dX8_left_5 _ tw_w372 tw_kc134 rfl ?_
  refine tw_g2_3N (k := 1) (v := .ref (tw_zB z + 4)) X dX8_left_8 _ tw_w221 tw_kc1 rfl ?_
  refine r_bd (fun r3 hr3 => ?_)
  refine tw_c_X0_removeAll X dX8_left_11 _ tw_w564 tw_kc140 tw_kc4 hr3 (tw_le hfr rfl) (tw_le hlo rfl) hcs (Nat.le_of_ble_eq_true rfl) trivial ?_
  refine r_aload_n X dX8_left_14 rfl 0 rfl ?_
  refine tw_g8_3 (k := 134) (v := .ref (tw_zB z + 140)) X dX8_left_15 _ tw_w375 tw_kc134 rfl ?_
  exact r_aret X dX8_left_18 hret hQ rfl
theorem tw_c_X8_left {ρ : Type} {z : tw_Z} {cc : ByteArray} {own : String} {nL pc : Nat} {σ : tw_Sg} {L : List (Nat × Value)} {st : List Value} {ix : Nat} {n : Nat}  (X : tw_X z cc own nL) (d : decode cc pc = .ok (.invokevirtual ix, 3)) (i : Nat) (hi : lw_tbl[i]? = some (.methodLink own ix yX8_left))  {res : ρ} {E : Option ρ} {r : Nat × tw_Sg} (h : tw_P_X8_left n σ = some r) (h1 : 4 ≤ (tw_zR z).frames) (h2 : 122 ≤ (tw_zR z).locals) (hcs : tw_zcells z ≤ (tw_zR z).cells ∧ tw_zslots z ≤ (tw_zR z).slots) (hst : (st.map fun v => v.category).sum ≤ 8) (_ : True) (kk : tw_Rf z res E r.2 (pc + 3) L (.ref (tw_zB z + r.1) :: st)) : tw_Rf z res E σ pc L (.ref (tw_zB z + 134) :: st) := r_callV (As := []) X d (tw_m_X8_left  h) tw_y_X8_left tw_v_X8_left i hi rfl (tw_kd_lt tw_kc134 (by decide)) (tw_E8 tw_kc134) rfl ⟨rfl, rfl, h1, h2⟩ hcs hst rfl kk
def tw_P_X8_countParts (n : Nat)  (σ : tw_Sg) : Option (Int32 × tw_Sg) :=
tw_bd (tw_P_X8_left n σ) (fun r1 =>
tw_ck (decide (r1.1 = 140)) (
tw_bd (tw_P_X3_clear n r1.2) (fun r3 =>
tw_lt (0 : Int32) (fun (v4 : Int32) =>
tw_lt (0 : Int32) (fun (v5 : Int32) =>
tw_lp (fun (k7 : (Int32 × Int32 × tw_Sg) → Option (Int32 × tw_Sg)) (a6 : Int32 × Int32 × tw_Sg) =>
if (704 : Int32) ≤ a6.2.1 then (some (a6.1, a6.2.2))
else (tw_bd (tw_P_X0_has 140 a6.2.1 a6.2.2) (fun r8 =>
tw_jn (fun (a9 : Int32 × tw_Sg) =>
tw_lt (a6.2.1 + (1 : Int32)) (fun (v11 : Int32) =>
k7 (a9.1, v11, a9.2))) (fun (j10 : (Int32 × tw_Sg) → Option (Int32 × tw_Sg)) =>
if r8 = 0 then (j10 (a6.1, a6.2.2))
else (tw_bd (tw_P_X7_get 136 a6.2.1 a6.2.2) (fun r12 =>
if 0 ≤ r12 then (j10 (a6.1, a6.2.2))
else (tw_bd (tw_P_X3_spread n 140 a6.2.1 a6.2.2) (fun r13 =>
tw_lt (a6.1 + (1 : Int32)) (fun (v14 : Int32) =>
j10 (v14, r13.2)))))))))) n (v4, v5, r3))))))
theorem tw_y_X8_countParts : tw_My yX8_countParts cX8_countParts 4 (some .int) 0 := ⟨List.mem_of_getElem? tw_w777, List.mem_of_getElem? tw_w96, by decide +kernel, by decide +kernel, by decide +kernel⟩
theorem tw_v_X8_countParts : tw_Mv yX8_countParts "TreasureWalk$Survey" := ⟨List.mem_of_getElem? tw_w775, List.mem_of_getElem? tw_w776, rfl⟩
set_option maxRecDepth 100000 in
set_option maxHeartbeats 4000000 in
theorem tw_m_X8_countParts {l : Launch} {B : Nat} {D : va_G} {C : Nat → ClassId} {S : Nat → Nat} {n : Nat}  {σ : tw_Sg}  {r : Int32 × tw_Sg} (h : tw_P_X8_countParts n σ = some r) : tw_Met l B D C S yX8_countParts cX8_countParts 4 (some .int) ({ frames := 4, cells := 0, slots := 0, locals := 122 } : Room) [.ref (B + 134)] σ (some (.int r.1)) r.2 := by
  refine tw_metOfP (tw_P_X8_countParts n σ) r h (fun r => (some (.int r.1), r.2)) (by decide +kernel) (Nat.le_of_ble_eq_true rfl) ⟨rfl, rfl⟩ ?_
  intro z el eB eD eC eS hfr hlo hcs X hret hQ
  subst el eB eD eC eS
  have X : tw_X z cX8_countParts "TreasureWalk$Survey" 4 := X
  show tw_Rf z r _ σ 0 [(0, .ref (tw_zB z + 134))] []
  unfold tw_P_X8_countParts
  refine r_aload_n X dX8_countParts_0 rfl 0 rfl ?_
  refine r_bd (fun r1 hr1 => ?_)
  refine tw_c_X8_left X dX8_countParts_1 _ tw_w525  hr1 (tw_le hfr rfl) (tw_le hlo rfl) hcs (Nat.le_of_ble_eq_true rfl) trivial ?_
  refine r_ck (fun h2 => ?_)
  rw [(of_decide_eq_true h2 : r1.1 = 140)]
  refine r_astore_n X dX8_countParts_4 rfl (by decide) (L' := [(1, .ref (tw_zB z + 140)), (0, .ref (tw_zB z + 134))]) rfl ?_
  refine r_aload_n X dX8_countParts_5 rfl 1 rfl ?_
  refine tw_g8_2 (k := 134) (v := .ref (tw_zB z + 135)) X dX8_countParts_6 _ tw_w374 tw_kc134 rfl ?_
  refine r_bd (fun r3 hr3 => ?_)
  refine tw_c_X3_clear X dX8_countParts_9 _ tw_w572  hr3 (tw_le hfr rfl) (tw_le hlo rfl) hcs (Nat.le_of_ble_eq_true rfl) trivial ?_
  refine r_iconst X dX8_countParts_12 (v := (0 : Int32)) (by decide) ?_
  refine r_istore_n X dX8_countParts_13 rfl (by decide) (LL := fun v4 => [(2, .int v4), (1, .ref (tw_zB z + 140)), (0, .ref (tw_zB z + 134))]) (fun _ => rfl) (fun v4 => ?_)
  refine r_iconst X dX8_countParts_14 (v := (0 : Int32)) (by decide) ?_
  refine r_istore_n X dX8_countParts_15 rfl (by decide) (LL := fun v5 => [(3, .int v5), (2, .int v4), (1, .ref (tw_zB z + 140)), (0, .ref (tw_zB z + 134))]) (fun _ => rfl) (fun v5 => ?_)
  refine r_lp (α := Int32 × Int32 × tw_Sg) (σJ := fun a6 => a6.2.2) (pcJ := 16) (LJ := fun a6 => [(3, .int a6.2.1), (2, .int a6.1), (1, .ref (tw_zB z + 140)), (0, .ref (tw_zB z + 134))]) (stJ := fun a6 => []) (fun k7 hk7 a6 => ?_) n (v4, v5, r3)
  refine r_iload_n X dX8_countParts_16 rfl 0 rfl ?_
  refine r_sipush X dX8_countParts_17 (v := (704 : Int32)) (by decide) ?_
  refine r_icmp_ge X dX8_countParts_20 (tgt := 64) (by decide) ?_ ?_
  ·
    refine r_iload_n X dX8_countParts_64 rfl 1 rfl ?_
    exact r_iret X dX8_countParts_65 hret hQ rfl
  ·
    refine r_aload_n X dX8_countParts_23 rfl 2 rfl ?_
    refine r_iload_n X dX8_countParts_24 rfl 0 rfl ?_
    refine r_bd (fun r8 hr8 => ?_)
    refine tw_c_X0_has X dX8_countParts_25 _ tw_w596 tw_kc140 hr8 (tw_le hfr rfl) (tw_le hlo rfl) hcs (Nat.le_of_ble_eq_true rfl) trivial ?_
    refine r_jn (α := Int32 × tw_Sg) (σJ := fun a9 => a9.2) (pcJ := 58) (LJ := fun a9 => [(3, .int a6.2.1), (2, .int a9.1), (1, .ref (tw_zB z + 140)), (0, .ref (tw_zB z + 134))]) (stJ := fun a9 => []) (ok := fun a9 => True) (fun a9 hoka9 => ?_) (fun j10 hj10 => ?_)
    ·
      refine r_iinc X dX8_countParts_58 0 rfl (v := (1 : Int32)) (by decide) (by decide) (LL := fun v11 => [(3, .int v11), (2, .int a9.1), (1, .ref (tw_zB z + 140)), (0, .ref (tw_zB z + 134))]) (fun _ => rfl) (fun v11 => ?_)
      refine r_goto X dX8_countParts_61 (tgt := 16) (by decide) ?_
      exact hk7 (a9.1, v11, a9.2)
    refine r_if_eq X dX8_countParts_28 (tgt := 58) (by decide) ?_ ?_
    ·
      exact hj10 (a6.1, a6.2.2) trivial
    ·
      refine r_aload_n X dX8_countParts_31 rfl 3 rfl ?_
      refine tw_g8_2 (k := 134) (v := .ref (tw_zB z + 135)) X dX8_countParts_32 _ tw_w374 tw_kc134 rfl ?_
      refine tw_g3_0N (k := 135) (v := .ref (tw_zB z + 136)) X dX8_countParts_35 _ tw_w363 tw_kc135 rfl ?_
      refine r_iload_n X dX8_countParts_38 rfl 0 rfl ?_
      refine r_bd (fun r12 hr12 => ?_)
      refine tw_c_X7_get X dX8_countParts_39 _ tw_w597 tw_kc136 hr12 (tw_le hfr rfl) (tw_le hlo rfl) hcs (Nat.le_of_ble_eq_true rfl) trivial ?_
      refine r_if_ge X dX8_countParts_42 (tgt := 58) (by decide) ?_ ?_
      ·
        exact hj10 (a6.1, a6.2.2) trivial
      ·
        refine r_aload_n X dX8_countParts_45 rfl 3 rfl ?_
        refine tw_g8_2 (k := 134) (v := .ref (tw_zB z + 135)) X dX8_countParts_46 _ tw_w374 tw_kc134 rfl ?_
        refine r_aload_n X dX8_countParts_49 rfl 2 rfl ?_
        refine r_iload_n X dX8_countParts_50 rfl 0 rfl ?_
        refine r_bd (fun r13 hr13 => ?_)
        refine tw_c_X3_spread X dX8_countParts_51 _ tw_w577 tw_kc140 hr13 (tw_le hfr rfl) (tw_le hlo rfl) hcs (Nat.le_of_ble_eq_true rfl) trivial ?_
        refine r_pop X dX8_countParts_54 rfl ?_
        refine r_iinc X dX8_countParts_55 1 rfl (v := (1 : Int32)) (by decide) (by decide) (LL := fun v14 => [(2, .int v14), (3, .int a6.2.1), (1, .ref (tw_zB z + 140)), (0, .ref (tw_zB z + 134))]) (fun _ => rfl) (fun v14 => ?_)
        exact tw_Rf.sub [1, 0, 2, 3] rfl (hj10 (v14, r13.2) trivial)
theorem tw_c_X8_countParts {ρ : Type} {z : tw_Z} {cc : ByteArray} {own : String} {nL pc : Nat} {σ : tw_Sg} {L : List (Nat × Value)} {st : List Value} {ix : Nat} {n : Nat}  (X : tw_X z cc own nL) (d : decode cc pc = .ok (.invokevirtual ix, 3)) (i : Nat) (hi : lw_tbl[i]? = some (.methodLink own ix yX8_countParts))  {res : ρ} {E : Option ρ} {r : Int32 × tw_Sg} (h : tw_P_X8_countParts n σ = some r) (h1 : 5 ≤ (tw_zR z).frames) (h2 : 145 ≤ (tw_zR z).locals) (hcs : tw_zcells z ≤ (tw_zR z).cells ∧ tw_zslots z ≤ (tw_zR z).slots) (hst : (st.map fun v => v.category).sum ≤ 8) (_ : True) (kk : tw_Rf z res E r.2 (pc + 3) L (.int r.1 :: st)) : tw_Rf z res E σ pc L (.ref (tw_zB z + 134) :: st) := r_callV (As := []) X d (tw_m_X8_countParts  h) tw_y_X8_countParts tw_v_X8_countParts i hi rfl (tw_kd_lt tw_kc134 (by decide)) (tw_E8 tw_kc134) rfl ⟨rfl, rfl, h1, h2⟩ hcs hst rfl kk
def tw_P_X8_partSize (n : Nat) (x0 : Int32) (σ : tw_Sg) : Option (Int32 × tw_Sg) :=
tw_bd (tw_P_X8_left n σ) (fun r1 =>
tw_ck (decide (r1.1 = 140)) (
tw_bd (tw_P_X3_clear n r1.2) (fun r3 =>
tw_bd (tw_P_X0_has 140 x0 r3) (fun r4 =>
tw_jn (fun (a5 : Int32 × tw_Sg) =>
some (a5.1, a5.2)) (fun (j6 : (Int32 × tw_Sg) → Option (Int32 × tw_Sg)) =>
if r4 = 0 then (j6 ((0 : Int32), r3))
else (tw_bd (tw_P_X3_spread n 140 x0 r3) (fun r7 =>
j6 (r7.1, r7.2))))))))
theorem tw_y_X8_partSize : tw_My yX8_partSize cX8_partSize 3 (some .int) 1 := ⟨List.mem_of_getElem? tw_w1203, List.mem_of_getElem? tw_w96, by decide +kernel, by decide +kernel, by decide +kernel⟩
theorem tw_v_X8_partSize : tw_Mv yX8_partSize "TreasureWalk$Survey" := ⟨List.mem_of_getElem? tw_w1201, List.mem_of_getElem? tw_w1202, rfl⟩
set_option maxRecDepth 100000 in
set_option maxHeartbeats 4000000 in
theorem tw_m_X8_partSize {l : Launch} {B : Nat} {D : va_G} {C : Nat → ClassId} {S : Nat → Nat} {n : Nat} {x0 : Int32} {σ : tw_Sg}  {r : Int32 × tw_Sg} (h : tw_P_X8_partSize n x0 σ = some r) : tw_Met l B D C S yX8_partSize cX8_partSize 3 (some .int) ({ frames := 4, cells := 0, slots := 0, locals := 122 } : Room) [.ref (B + 134), .int x0] σ (some (.int r.1)) r.2 := by
  refine tw_metOfP (tw_P_X8_partSize n x0 σ) r h (fun r => (some (.int r.1), r.2)) (by decide +kernel) (Nat.le_of_ble_eq_true rfl) ⟨rfl, rfl⟩ ?_
  intro z el eB eD eC eS hfr hlo hcs X hret hQ
  subst el eB eD eC eS
  have X : tw_X z cX8_partSize "TreasureWalk$Survey" 3 := X
  show tw_Rf z r _ σ 0 [(0, .ref (tw_zB z + 134)), (1, .int x0)] []
  unfold tw_P_X8_partSize
  refine r_aload_n X dX8_partSize_0 rfl 0 rfl ?_
  refine r_bd (fun r1 hr1 => ?_)
  refine tw_c_X8_left X dX8_partSize_1 _ tw_w525  hr1 (tw_le hfr rfl) (tw_le hlo rfl) hcs (Nat.le_of_ble_eq_true rfl) trivial ?_
  refine r_ck (fun h2 => ?_)
  rw [(of_decide_eq_true h2 : r1.1 = 140)]
  refine r_astore_n X dX8_partSize_4 rfl (by decide) (L' := [(2, .ref (tw_zB z + 140)), (0, .ref (tw_zB z + 134)), (1, .int x0)]) rfl ?_
  refine r_aload_n X dX8_partSize_5 rfl 1 rfl ?_
  refine tw_g8_2 (k := 134) (v := .ref (tw_zB z + 135)) X dX8_partSize_6 _ tw_w374 tw_kc134 rfl ?_
  refine r_bd (fun r3 hr3 => ?_)
  refine tw_c_X3_clear X dX8_partSize_9 _ tw_w572  hr3 (tw_le hfr rfl) (tw_le hlo rfl) hcs (Nat.le_of_ble_eq_true rfl) trivial ?_
  refine r_aload_n X dX8_partSize_12 rfl 0 rfl ?_
  refine r_iload_n X dX8_partSize_13 rfl 2 rfl ?_
  refine r_bd (fun r4 hr4 => ?_)
  refine tw_c_X0_has X dX8_partSize_14 _ tw_w596 tw_kc140 hr4 (tw_le hfr rfl) (tw_le hlo rfl) hcs (Nat.le_of_ble_eq_true rfl) trivial ?_
  refine r_jn (α := Int32 × tw_Sg) (σJ := fun a5 => a5.2) (pcJ := 33) (LJ := fun a5 => []) (stJ := fun a5 => [.int a5.1]) (ok := fun a5 => True) (fun a5 hoka5 => ?_) (fun j6 hj6 => ?_)
  ·
    exact r_iret X dX8_partSize_33 hret hQ rfl
  refine r_if_eq X dX8_partSize_17 (tgt := 32) (by decide) ?_ ?_
  ·
    refine r_iconst X dX8_partSize_32 (v := (0 : Int32)) (by decide) ?_
    exact tw_Rf.sub [] rfl (hj6 ((0 : Int32), r3) trivial)
  ·
    refine r_aload_n X dX8_partSize_20 rfl 1 rfl ?_
    refine tw_g8_2 (k := 134) (v := .ref (tw_zB z + 135)) X dX8_partSize_21 _ tw_w374 tw_kc134 rfl ?_
    refine r_aload_n X dX8_partSize_24 rfl 0 rfl ?_
    refine r_iload_n X dX8_partSize_25 rfl 2 rfl ?_
    refine r_bd (fun r7 hr7 => ?_)
    refine tw_c_X3_spread X dX8_partSize_26 _ tw_w577 tw_kc140 hr7 (tw_le hfr rfl) (tw_le hlo rfl) hcs (Nat.le_of_ble_eq_true rfl) trivial ?_
    refine r_goto X dX8_partSize_29 (tgt := 33) (by decide) ?_
    exact tw_Rf.sub [] rfl (hj6 (r7.1, r7.2) trivial)
theorem tw_c_X8_partSize {ρ : Type} {z : tw_Z} {cc : ByteArray} {own : String} {nL pc : Nat} {σ : tw_Sg} {L : List (Nat × Value)} {st : List Value} {ix : Nat} {n : Nat} {x0 : Int32} (X : tw_X z cc own nL) (d : decode cc pc = .ok (.invokevirtual ix, 3)) (i : Nat) (hi : lw_tbl[i]? = some (.methodLink own ix yX8_partSize))  {res : ρ} {E : Option ρ} {r : Int32 × tw_Sg} (h : tw_P_X8_partSize n x0 σ = some r) (h1 : 5 ≤ (tw_zR z).frames) (h2 : 144 ≤ (tw_zR z).locals) (hcs : tw_zcells z ≤ (tw_zR z).cells ∧ tw_zslots z ≤ (tw_zR z).slots) (hst : (st.map fun v => v.category).sum ≤ 8) (_ : True) (kk : tw_Rf z res E r.2 (pc + 3) L (.int r.1 :: st)) : tw_Rf z res E σ pc L (.int x0 :: .ref (tw_zB z + 134) :: st) := r_callV (As := [.int x0]) X d (tw_m_X8_partSize  h) tw_y_X8_partSize tw_v_X8_partSize i hi rfl (tw_kd_lt tw_kc134 (by decide)) (tw_E8 tw_kc134) rfl ⟨rfl, rfl, h1, h2⟩ hcs hst rfl kk
def tw_P_X8_distancesFrom (n : Nat) (x0 : Int32) (σ : tw_Sg) : Option (Nat × tw_Sg) :=
tw_bd (tw_P_X3_clear n σ) (fun r1 =>
tw_bd (tw_P_X3_spread n 2 x0 r1) (fun r2 =>
some (136, r2.2)))
theorem tw_y_X8_distancesFrom : tw_My yX8_distancesFrom cX8_distancesFrom 2 (some (.object "TreasureWalk$Row")) 1 := ⟨List.mem_of_getElem? tw_w571, List.mem_of_getElem? tw_w96, by decide +kernel, by decide +kernel, by decide +kernel⟩
theorem tw_v_X8_distancesFrom : tw_Mv yX8_distancesFrom "TreasureWalk$Survey" := ⟨List.mem_of_getElem? tw_w569, List.mem_of_getElem? tw_w570, rfl⟩
set_option maxRecDepth 100000 in
set_option maxHeartbeats 4000000 in
theorem tw_m_X8_distancesFrom {l : Launch} {B : Nat} {D : va_G} {C : Nat → ClassId} {S : Nat → Nat} {n : Nat} {x0 : Int32} {σ : tw_Sg}  {r : Nat × tw_Sg} (h : tw_P_X8_distancesFrom n x0 σ = some r) : tw_Met l B D C S yX8_distancesFrom cX8_distancesFrom 2 (some (.object "TreasureWalk$Row")) ({ frames := 3, cells := 0, slots := 0, locals := 72 } : Room) [.ref (B + 134), .int x0] σ (some (.ref (B + r.1))) r.2 := by
  refine tw_metOfP (tw_P_X8_distancesFrom n x0 σ) r h (fun r => (some (.ref (B + r.1)), r.2)) (by decide +kernel) (Nat.le_of_ble_eq_true rfl) ⟨rfl, rfl⟩ ?_
  intro z el eB eD eC eS hfr hlo hcs X hret hQ
  subst el eB eD eC eS
  have X : tw_X z cX8_distancesFrom "TreasureWalk$Survey" 2 := X
  show tw_Rf z r _ σ 0 [(0, .ref (tw_zB z + 134)), (1, .int x0)] []
  unfold tw_P_X8_distancesFrom
  refine r_aload_n X dX8_distancesFrom_0 rfl 0 rfl ?_
  refine tw_g8_2 (k := 134) (v := .ref (tw_zB z + 135)) X dX8_distancesFrom_1 _ tw_w374 tw_kc134 rfl ?_
  refine r_bd (fun r1 hr1 => ?_)
  refine tw_c_X3_clear X dX8_distancesFrom_4 _ tw_w572  hr1 (tw_le hfr rfl) (tw_le hlo rfl) hcs (Nat.le_of_ble_eq_true rfl) trivial ?_
  refine r_aload_n X dX8_distancesFrom_7 rfl 0 rfl ?_
  refine tw_g8_2 (k := 134) (v := .ref (tw_zB z + 135)) X dX8_distancesFrom_8 _ tw_w374 tw_kc134 rfl ?_
  refine r_aload_n X dX8_distancesFrom_11 rfl 0 rfl ?_
  refine tw_g8_0 (k := 134) (v := .ref (tw_zB z + 1)) X dX8_distancesFrom_12 _ tw_w372 tw_kc134 rfl ?_
  refine tw_g2_2N (k := 1) (v := .ref (tw_zB z + 2)) X dX8_distancesFrom_15 _ tw_w216 tw_kc1 rfl ?_
  refine r_iload_n X dX8_distancesFrom_18 rfl 1 rfl ?_
  refine r_bd (fun r2 hr2 => ?_)
  refine tw_c_X3_spread X dX8_distancesFrom_19 _ tw_w577 tw_kc2 hr2 (tw_le hfr rfl) (tw_le hlo rfl) hcs (Nat.le_of_ble_eq_true rfl) trivial ?_
  refine r_pop X dX8_distancesFrom_22 rfl ?_
  refine r_aload_n X dX8_distancesFrom_23 rfl 0 rfl ?_
  refine tw_g8_2 (k := 134) (v := .ref (tw_zB z + 135)) X dX8_distancesFrom_24 _ tw_w374 tw_kc134 rfl ?_
  refine tw_g3_0N (k := 135) (v := .ref (tw_zB z + 136)) X dX8_distancesFrom_27 _ tw_w363 tw_kc135 rfl ?_
  exact r_aret X dX8_distancesFrom_30 hret hQ rfl
theorem tw_c_X8_distancesFrom {ρ : Type} {z : tw_Z} {cc : ByteArray} {own : String} {nL pc : Nat} {σ : tw_Sg} {L : List (Nat × Value)} {st : List Value} {ix : Nat} {n : Nat} {x0 : Int32} (X : tw_X z cc own nL) (d : decode cc pc = .ok (.invokevirtual ix, 3)) (i : Nat) (hi : lw_tbl[i]? = some (.methodLink own ix yX8_distancesFrom))  {res : ρ} {E : Option ρ} {r : Nat × tw_Sg} (h : tw_P_X8_distancesFrom n x0 σ = some r) (h1 : 4 ≤ (tw_zR z).frames) (h2 : 93 ≤ (tw_zR z).locals) (hcs : tw_zcells z ≤ (tw_zR z).cells ∧ tw_zslots z ≤ (tw_zR z).slots) (hst : (st.map fun v => v.category).sum ≤ 8) (_ : True) (kk : tw_Rf z res E r.2 (pc + 3) L (.ref (tw_zB z + r.1) :: st)) : tw_Rf z res E σ pc L (.int x0 :: .ref (tw_zB z + 134) :: st) := r_callV (As := [.int x0]) X d (tw_m_X8_distancesFrom  h) tw_y_X8_distancesFrom tw_v_X8_distancesFrom i hi rfl (tw_kd_lt tw_kc134 (by decide)) (tw_E8 tw_kc134) rfl ⟨rfl, rfl, h1, h2⟩ hcs hst rfl kk
def tw_P_X8_nearestLeft (n : Nat)  (σ : tw_Sg) : Option (Int32 × tw_Sg) :=
tw_bd (tw_P_X8_left n σ) (fun r1 =>
tw_ck (decide (r1.1 = 140)) (
tw_bd (tw_P_X8_distancesFrom n (r1.2 1 10) r1.2) (fun r3 =>
tw_ck (decide (r3.1 = 136)) (
tw_lt (0 : Int32) (fun (v5 : Int32) =>
tw_lt (0 : Int32) (fun (v6 : Int32) =>
tw_lp (fun (k8 : (Int32 × Int32) → Option (Int32 × tw_Sg)) (a7 : Int32 × Int32) =>
if (704 : Int32) ≤ a7.2 then (some (a7.1, r3.2))
else (tw_bd (tw_P_X0_has 140 a7.2 r3.2) (fun r9 =>
tw_jn (fun (a10 : Int32) =>
tw_lt a10 (fun (v12 : Int32) =>
tw_jn (fun (a13 : Int32) =>
tw_lt (a7.2 + (1 : Int32)) (fun (v15 : Int32) =>
k8 (a13, v15))) (fun (j14 : (Int32) → Option (Int32 × tw_Sg)) =>
if v12 < 0 then (j14 a7.1)
else (tw_jn (fun (a16 : Unit) =>
tw_lt a7.2 (fun (v18 : Int32) =>
j14 v18)) (fun (j17 : (Unit) → Option (Int32 × tw_Sg)) =>
if a7.1 = 0 then (j17 ())
else (tw_bd (tw_P_X7_get 136 a7.1 r3.2) (fun r19 =>
if r19 ≤ v12 then (j14 a7.1)
else (j17 ())))))))) (fun (j11 : (Int32) → Option (Int32 × tw_Sg)) =>
if r9 = 0 then (j11 (-1 : Int32))
else (tw_bd (tw_P_X7_get 136 a7.2 r3.2) (fun r20 =>
j11 r20)))))) n (v5, v6)))))))
theorem tw_y_X8_nearestLeft : tw_My yX8_nearestLeft cX8_nearestLeft 6 (some .int) 0 := ⟨List.mem_of_getElem? tw_w524, List.mem_of_getElem? tw_w96, by decide +kernel, by decide +kernel, by decide +kernel⟩
theorem tw_v_X8_nearestLeft : tw_Mv yX8_nearestLeft "TreasureWalk$Survey" := ⟨List.mem_of_getElem? tw_w522, List.mem_of_getElem? tw_w523, rfl⟩
set_option maxRecDepth 100000 in
set_option maxHeartbeats 4000000 in
theorem tw_m_X8_nearestLeft {l : Launch} {B : Nat} {D : va_G} {C : Nat → ClassId} {S : Nat → Nat} {n : Nat}  {σ : tw_Sg}  {r : Int32 × tw_Sg} (h : tw_P_X8_nearestLeft n σ = some r) : tw_Met l B D C S yX8_nearestLeft cX8_nearestLeft 6 (some .int) ({ frames := 4, cells := 0, slots := 0, locals := 122 } : Room) [.ref (B + 134)] σ (some (.int r.1)) r.2 := by
  refine tw_metOfP (tw_P_X8_nearestLeft n σ) r h (fun r => (some (.int r.1), r.2)) (by decide +kernel) (Nat.le_of_ble_eq_true rfl) ⟨rfl, rfl⟩ ?_
  intro z el eB eD eC eS hfr hlo hcs X hret hQ
  subst el eB eD eC eS
  have X : tw_X z cX8_nearestLeft "TreasureWalk$Survey" 6 := X
  show tw_Rf z r _ σ 0 [(0, .ref (tw_zB z + 134))] []
  unfold tw_P_X8_nearestLeft
  refine r_aload_n X dX8_nearestLeft_0 rfl 0 rfl ?_
  refine r_bd (fun r1 hr1 => ?_)
  refine tw_c_X8_left X dX8_nearestLeft_1 _ tw_w525  hr1 (tw_le hfr rfl) (tw_le hlo rfl) hcs (Nat.le_of_ble_eq_true rfl) trivial ?_
  refine r_ck (fun h2 => ?_)
  rw [(of_decide_eq_true h2 : r1.1 = 140)]
  refine r_astore_n X dX8_nearestLeft_4 rfl (by decide) (L' := [(1, .ref (tw_zB z + 140)), (0, .ref (tw_zB z + 134))]) rfl ?_
  refine r_aload_n X dX8_nearestLeft_5 rfl 1 rfl ?_
  refine r_aload_n X dX8_nearestLeft_6 rfl 1 rfl ?_
  refine tw_g8_0 (k := 134) (v := .ref (tw_zB z + 1)) X dX8_nearestLeft_7 _ tw_w372 tw_kc134 rfl ?_
  refine tw_g2_10N (k := 1) (v := .int (r1.2 1 10)) X dX8_nearestLeft_10 _ tw_w246 tw_kc1 rfl ?_
  refine r_bd (fun r3 hr3 => ?_)
  refine tw_c_X8_distancesFrom X dX8_nearestLeft_13 _ tw_w568  hr3 (tw_le hfr rfl) (tw_le hlo rfl) hcs (Nat.le_of_ble_eq_true rfl) trivial ?_
  refine r_ck (fun h4 => ?_)
  rw [(of_decide_eq_true h4 : r3.1 = 136)]
  refine r_astore_n X dX8_nearestLeft_16 rfl (by decide) (L' := [(2, .ref (tw_zB z + 136)), (1, .ref (tw_zB z + 140)), (0, .ref (tw_zB z + 134))]) rfl ?_
  refine r_iconst X dX8_nearestLeft_17 (v := (0 : Int32)) (by decide) ?_
  refine r_istore_n X dX8_nearestLeft_18 rfl (by decide) (LL := fun v5 => [(3, .int v5), (2, .ref (tw_zB z + 136)), (1, .ref (tw_zB z + 140)), (0, .ref (tw_zB z + 134))]) (fun _ => rfl) (fun v5 => ?_)
  refine r_iconst X dX8_nearestLeft_19 (v := (0 : Int32)) (by decide) ?_
  refine r_istore X dX8_nearestLeft_20 (by decide) (LL := fun v6 => [(4, .int v6), (3, .int v5), (2, .ref (tw_zB z + 136)), (1, .ref (tw_zB z + 140)), (0, .ref (tw_zB z + 134))]) (fun _ => rfl) (fun v6 => ?_)
  refine tw_Rf.sub [0, 1, 2, 3] rfl ?_
  refine r_lp (α := Int32 × Int32) (σJ := fun a7 => r3.2) (pcJ := 22) (LJ := fun a7 => [(4, .int a7.2), (3, .int a7.1), (2, .ref (tw_zB z + 136)), (1, .ref (tw_zB z + 140))]) (stJ := fun a7 => []) (fun k8 hk8 a7 => ?_) n (v5, v6)
  refine r_iload X dX8_nearestLeft_22 0 rfl ?_
  refine r_sipush X dX8_nearestLeft_24 (v := (704 : Int32)) (by decide) ?_
  refine r_icmp_ge X dX8_nearestLeft_27 (tgt := 79) (by decide) ?_ ?_
  ·
    refine r_iload_n X dX8_nearestLeft_79 rfl 1 rfl ?_
    exact r_iret X dX8_nearestLeft_80 hret hQ rfl
  ·
    refine r_aload_n X dX8_nearestLeft_30 rfl 3 rfl ?_
    refine r_iload X dX8_nearestLeft_31 0 rfl ?_
    refine r_bd (fun r9 hr9 => ?_)
    refine tw_c_X0_has X dX8_nearestLeft_33 _ tw_w596 tw_kc140 hr9 (tw_le hfr rfl) (tw_le hlo rfl) hcs (Nat.le_of_ble_eq_true rfl) trivial ?_
    refine r_jn (α := Int32) (σJ := fun a10 => r3.2) (pcJ := 49) (LJ := fun a10 => [(4, .int a7.2), (3, .int a7.1), (2, .ref (tw_zB z + 136)), (1, .ref (tw_zB z + 140))]) (stJ := fun a10 => [.int a10]) (ok := fun a10 => True) (fun a10 hoka10 => ?_) (fun j11 hj11 => ?_)
    ·
      refine r_istore X dX8_nearestLeft_49 (by decide) (LL := fun v12 => [(5, .int v12), (4, .int a7.2), (3, .int a7.1), (2, .ref (tw_zB z + 136)), (1, .ref (tw_zB z + 140))]) (fun _ => rfl) (fun v12 => ?_)
      refine r_iload X dX8_nearestLeft_51 0 rfl ?_
      refine r_jn (α := Int32) (σJ := fun a13 => r3.2) (pcJ := 73) (LJ := fun a13 => [(4, .int a7.2), (3, .int a13), (2, .ref (tw_zB z + 136)), (1, .ref (tw_zB z + 140))]) (stJ := fun a13 => []) (ok := fun a13 => True) (fun a13 hoka13 => ?_) (fun j14 hj14 => ?_)
      ·
        refine r_iinc X dX8_nearestLeft_73 0 rfl (v := (1 : Int32)) (by decide) (by decide) (LL := fun v15 => [(4, .int v15), (3, .int a13), (2, .ref (tw_zB z + 136)), (1, .ref (tw_zB z + 140))]) (fun _ => rfl) (fun v15 => ?_)
        refine r_goto X dX8_nearestLeft_76 (tgt := 22) (by decide) ?_
        exact hk8 (a13, v15)
      refine r_if_lt X dX8_nearestLeft_53 (tgt := 73) (by decide) ?_ ?_
      ·
        exact tw_Rf.sub [1, 2, 3, 4] rfl (hj14 a7.1 trivial)
      ·
        refine r_iload_n X dX8_nearestLeft_56 rfl 2 rfl ?_
        refine r_jn (α := Unit) (σJ := fun a16 => r3.2) (pcJ := 70) (LJ := fun a16 => [(4, .int a7.2), (2, .ref (tw_zB z + 136)), (1, .ref (tw_zB z + 140))]) (stJ := fun a16 => []) (ok := fun a16 => True) (fun a16 hoka16 => ?_) (fun j17 hj17 => ?_)
        ·
          refine r_iload X dX8_nearestLeft_70 0 rfl ?_
          refine r_istore_n X dX8_nearestLeft_72 rfl (by decide) (LL := fun v18 => [(3, .int v18), (4, .int a7.2), (2, .ref (tw_zB z + 136)), (1, .ref (tw_zB z + 140))]) (fun _ => rfl) (fun v18 => ?_)
          exact tw_Rf.sub [1, 0, 2, 3] rfl (hj14 v18 trivial)
        refine r_if_eq X dX8_nearestLeft_57 (tgt := 70) (by decide) ?_ ?_
        ·
          exact tw_Rf.sub [1, 3, 4] rfl (hj17 () trivial)
        ·
          refine r_iload X dX8_nearestLeft_60 0 rfl ?_
          refine r_aload_n X dX8_nearestLeft_62 rfl 3 rfl ?_
          refine r_iload_n X dX8_nearestLeft_63 rfl 2 rfl ?_
          refine r_bd (fun r19 hr19 => ?_)
          refine tw_c_X7_get X dX8_nearestLeft_64 _ tw_w597 tw_kc136 hr19 (tw_le hfr rfl) (tw_le hlo rfl) hcs (Nat.le_of_ble_eq_true rfl) trivial ?_
          refine r_icmp_ge X dX8_nearestLeft_67 (tgt := 73) (by decide) ?_ ?_
          ·
            exact tw_Rf.sub [1, 2, 3, 4] rfl (hj14 a7.1 trivial)
          ·
            exact tw_Rf.sub [1, 3, 4] rfl (hj17 () trivial)
    refine r_if_eq X dX8_nearestLeft_36 (tgt := 48) (by decide) ?_ ?_
    ·
      refine r_iconst X dX8_nearestLeft_48 (v := (-1 : Int32)) (by decide) ?_
      exact hj11 (-1 : Int32) trivial
    ·
      refine r_aload_n X dX8_nearestLeft_39 rfl 2 rfl ?_
      refine r_iload X dX8_nearestLeft_40 0 rfl ?_
      refine r_bd (fun r20 hr20 => ?_)
      refine tw_c_X7_get X dX8_nearestLeft_42 _ tw_w597 tw_kc136 hr20 (tw_le hfr rfl) (tw_le hlo rfl) hcs (Nat.le_of_ble_eq_true rfl) trivial ?_
      refine r_goto X dX8_nearestLeft_45 (tgt := 49) (by decide) ?_
      exact hj11 r20 trivial
theorem tw_c_X8_nearestLeft {ρ : Type} {z : tw_Z} {cc : ByteArray} {own : String} {nL pc : Nat} {σ : tw_Sg} {L : List (Nat × Value)} {st : List Value} {ix : Nat} {n : Nat}  (X : tw_X z cc own nL) (d : decode cc pc = .ok (.invokevirtual ix, 3)) (i : Nat) (hi : lw_tbl[i]? = some (.methodLink own ix yX8_nearestLeft))  {res : ρ} {E : Option ρ} {r : Int32 × tw_Sg} (h : tw_P_X8_nearestLeft n σ = some r) (h1 : 5 ≤ (tw_zR z).frames) (h2 : 147 ≤ (tw_zR z).locals) (hcs : tw_zcells z ≤ (tw_zR z).cells ∧ tw_zslots z ≤ (tw_zR z).slots) (hst : (st.map fun v => v.category).sum ≤ 8) (_ : True) (kk : tw_Rf z res E r.2 (pc + 3) L (.int r.1 :: st)) : tw_Rf z res E σ pc L (.ref (tw_zB z + 134) :: st) := r_callV (As := []) X d (tw_m_X8_nearestLeft  h) tw_y_X8_nearestLeft tw_v_X8_nearestLeft i hi rfl (tw_kd_lt tw_kc134 (by decide)) (tw_E8 tw_kc134) rfl ⟨rfl, rfl, h1, h2⟩ hcs hst rfl kk
def tw_P_X8_meanOfLeft (n : Nat)  (σ : tw_Sg) : Option (UInt64 × tw_Sg) :=
tw_bd (tw_P_X8_left n σ) (fun r1 =>
tw_ck (decide (r1.1 = 140)) (
tw_bd (tw_P_X8_distancesFrom n (r1.2 1 10) r1.2) (fun r3 =>
tw_ck (decide (r3.1 = 136)) (
tw_lt (0 : Int32) (fun (v5 : Int32) =>
tw_lt (0 : Int32) (fun (v6 : Int32) =>
tw_lt (0 : Int32) (fun (v7 : Int32) =>
tw_lp (fun (k9 : (Int32 × Int32 × Int32) → Option (UInt64 × tw_Sg)) (a8 : Int32 × Int32 × Int32) =>
if (704 : Int32) ≤ a8.2.2 then (tw_jn (fun (a10 : UInt64) =>
some (a10, r3.2)) (fun (j11 : (UInt64) → Option (UInt64 × tw_Sg)) =>
if a8.2.1 ≤ 0 then (j11 FP.dconst0)
else (tw_ck (tw_nn (FP.ddiv (FP.i2d a8.1) (FP.i2d a8.2.1))) (
j11 (FP.ddiv (FP.i2d a8.1) (FP.i2d a8.2.1))))))
else (tw_bd (tw_P_X0_has 140 a8.2.2 r3.2) (fun r12 =>
tw_jn (fun (a13 : Int32 × Int32) =>
tw_lt (a8.2.2 + (1 : Int32)) (fun (v15 : Int32) =>
k9 (a13.1, a13.2, v15))) (fun (j14 : (Int32 × Int32) → Option (UInt64 × tw_Sg)) =>
if r12 = 0 then (j14 (a8.1, a8.2.1))
else (tw_bd (tw_P_X7_get 136 a8.2.2 r3.2) (fun r16 =>
if r16 < 0 then (j14 (a8.1, a8.2.1))
else (tw_bd (tw_P_X7_get 136 a8.2.2 r3.2) (fun r17 =>
tw_lt (a8.1 + r17) (fun (v18 : Int32) =>
tw_lt (a8.2.1 + (1 : Int32)) (fun (v19 : Int32) =>
j14 (v18, v19))))))))))) n (v5, v6, v7))))))))
theorem tw_y_X8_meanOfLeft : tw_My yX8_meanOfLeft cX8_meanOfLeft 6 (some .double) 0 := ⟨List.mem_of_getElem? tw_w656, List.mem_of_getElem? tw_w96, by decide +kernel, by decide +kernel, by decide +kernel⟩
theorem tw_v_X8_meanOfLeft : tw_Mv yX8_meanOfLeft "TreasureWalk$Survey" := ⟨List.mem_of_getElem? tw_w654, List.mem_of_getElem? tw_w655, rfl⟩
set_option maxRecDepth 100000 in
set_option maxHeartbeats 4000000 in
theorem tw_m_X8_meanOfLeft {l : Launch} {B : Nat} {D : va_G} {C : Nat → ClassId} {S : Nat → Nat} {n : Nat}  {σ : tw_Sg}  {r : UInt64 × tw_Sg} (h : tw_P_X8_meanOfLeft n σ = some r) : tw_Met l B D C S yX8_meanOfLeft cX8_meanOfLeft 6 (some .double) ({ frames := 4, cells := 0, slots := 0, locals := 122 } : Room) [.ref (B + 134)] σ (some (.double r.1)) r.2 := by
  refine tw_metOfP (tw_P_X8_meanOfLeft n σ) r h (fun r => (some (.double r.1), r.2)) (by decide +kernel) (Nat.le_of_ble_eq_true rfl) ⟨rfl, rfl⟩ ?_
  intro z el eB eD eC eS hfr hlo hcs X hret hQ
  subst el eB eD eC eS
  have X : tw_X z cX8_meanOfLeft "TreasureWalk$Survey" 6 := X
  show tw_Rf z r _ σ 0 [(0, .ref (tw_zB z + 134))] []
  unfold tw_P_X8_meanOfLeft
  refine r_aload_n X dX8_meanOfLeft_0 rfl 0 rfl ?_
  refine r_bd (fun r1 hr1 => ?_)
  refine tw_c_X8_left X dX8_meanOfLeft_1 _ tw_w525  hr1 (tw_le hfr rfl) (tw_le hlo rfl) hcs (Nat.le_of_ble_eq_true rfl) trivial ?_
  refine r_ck (fun h2 => ?_)
  rw [(of_decide_eq_true h2 : r1.1 = 140)]
  refine r_astore_n X dX8_meanOfLeft_4 rfl (by decide) (L' := [(1, .ref (tw_zB z + 140)), (0, .ref (tw_zB z + 134))]) rfl ?_
  refine r_aload_n X dX8_meanOfLeft_5 rfl 1 rfl ?_
  refine r_aload_n X dX8_meanOfLeft_6 rfl 1 rfl ?_
  refine tw_g8_0 (k := 134) (v := .ref (tw_zB z + 1)) X dX8_meanOfLeft_7 _ tw_w372 tw_kc134 rfl ?_
  refine tw_g2_10N (k := 1) (v := .int (r1.2 1 10)) X dX8_meanOfLeft_10 _ tw_w246 tw_kc1 rfl ?_
  refine r_bd (fun r3 hr3 => ?_)
  refine tw_c_X8_distancesFrom X dX8_meanOfLeft_13 _ tw_w568  hr3 (tw_le hfr rfl) (tw_le hlo rfl) hcs (Nat.le_of_ble_eq_true rfl) trivial ?_
  refine r_ck (fun h4 => ?_)
  rw [(of_decide_eq_true h4 : r3.1 = 136)]
  refine r_astore_n X dX8_meanOfLeft_16 rfl (by decide) (L' := [(2, .ref (tw_zB z + 136)), (1, .ref (tw_zB z + 140)), (0, .ref (tw_zB z + 134))]) rfl ?_
  refine r_iconst X dX8_meanOfLeft_17 (v := (0 : Int32)) (by decide) ?_
  refine r_istore_n X dX8_meanOfLeft_18 rfl (by decide) (LL := fun v5 => [(3, .int v5), (2, .ref (tw_zB z + 136)), (1, .ref (tw_zB z + 140)), (0, .ref (tw_zB z + 134))]) (fun _ => rfl) (fun v5 => ?_)
  refine r_iconst X dX8_meanOfLeft_19 (v := (0 : Int32)) (by decide) ?_
  refine r_istore X dX8_meanOfLeft_20 (by decide) (LL := fun v6 => [(4, .int v6), (3, .int v5), (2, .ref (tw_zB z + 136)), (1, .ref (tw_zB z + 140)), (0, .ref (tw_zB z + 134))]) (fun _ => rfl) (fun v6 => ?_)
  refine r_iconst X dX8_meanOfLeft_22 (v := (0 : Int32)) (by decide) ?_
  refine r_istore X dX8_meanOfLeft_23 (by decide) (LL := fun v7 => [(5, .int v7), (4, .int v6), (3, .int v5), (2, .ref (tw_zB z + 136)), (1, .ref (tw_zB z + 140)), (0, .ref (tw_zB z + 134))]) (fun _ => rfl) (fun v7 => ?_)
  refine tw_Rf.sub [0, 1, 2, 3, 4] rfl ?_
  refine r_lp (α := Int32 × Int32 × Int32) (σJ := fun a8 => r3.2) (pcJ := 25) (LJ := fun a8 => [(5, .int a8.2.2), (4, .int a8.2.1), (3, .int a8.1), (2, .ref (tw_zB z + 136)), (1, .ref (tw_zB z + 140))]) (stJ := fun a8 => []) (fun k9 hk9 a8 => ?_) n (v5, v6, v7)
  refine r_iload X dX8_meanOfLeft_25 0 rfl ?_
  refine r_sipush X dX8_meanOfLeft_27 (v := (704 : Int32)) (by decide) ?_
  refine r_icmp_ge X dX8_meanOfLeft_30 (tgt := 69) (by decide) ?_ ?_
  ·
    refine r_iload X dX8_meanOfLeft_69 1 rfl ?_
    refine r_jn (α := UInt64) (σJ := fun a10 => r3.2) (pcJ := 84) (LJ := fun a10 => []) (stJ := fun a10 => [.double a10]) (ok := fun a10 => True) (fun a10 hoka10 => ?_) (fun j11 hj11 => ?_)
    ·
      exact r_dret X dX8_meanOfLeft_84 hret hQ rfl
    refine r_if_le X dX8_meanOfLeft_71 (tgt := 83) (by decide) ?_ ?_
    ·
      refine r_dconst0 X dX8_meanOfLeft_83 ?_
      exact tw_Rf.sub [] rfl (hj11 FP.dconst0 trivial)
    ·
      refine r_iload_n X dX8_meanOfLeft_74 rfl 2 rfl ?_
      refine r_i2d X dX8_meanOfLeft_75 ?_
      refine r_iload X dX8_meanOfLeft_76 1 rfl ?_
      refine r_i2d X dX8_meanOfLeft_78 ?_
      refine r_ddiv X dX8_meanOfLeft_79 ?_
      refine r_goto X dX8_meanOfLeft_80 (tgt := 84) (by decide) ?_
      exact tw_Rf.sub [] rfl (hj11 (FP.ddiv (FP.i2d a8.1) (FP.i2d a8.2.1)) trivial)
  ·
    refine r_aload_n X dX8_meanOfLeft_33 rfl 4 rfl ?_
    refine r_iload X dX8_meanOfLeft_34 0 rfl ?_
    refine r_bd (fun r12 hr12 => ?_)
    refine tw_c_X0_has X dX8_meanOfLeft_36 _ tw_w596 tw_kc140 hr12 (tw_le hfr rfl) (tw_le hlo rfl) hcs (Nat.le_of_ble_eq_true rfl) trivial ?_
    refine r_jn (α := Int32 × Int32) (σJ := fun a13 => r3.2) (pcJ := 63) (LJ := fun a13 => [(5, .int a8.2.2), (4, .int a13.2), (3, .int a13.1), (2, .ref (tw_zB z + 136)), (1, .ref (tw_zB z + 140))]) (stJ := fun a13 => []) (ok := fun a13 => True) (fun a13 hoka13 => ?_) (fun j14 hj14 => ?_)
    ·
      refine r_iinc X dX8_meanOfLeft_63 0 rfl (v := (1 : Int32)) (by decide) (by decide) (LL := fun v15 => [(5, .int v15), (4, .int a13.2), (3, .int a13.1), (2, .ref (tw_zB z + 136)), (1, .ref (tw_zB z + 140))]) (fun _ => rfl) (fun v15 => ?_)
      refine r_goto X dX8_meanOfLeft_66 (tgt := 25) (by decide) ?_
      exact hk9 (a13.1, a13.2, v15)
    refine r_if_eq X dX8_meanOfLeft_39 (tgt := 63) (by decide) ?_ ?_
    ·
      exact hj14 (a8.1, a8.2.1) trivial
    ·
      refine r_aload_n X dX8_meanOfLeft_42 rfl 3 rfl ?_
      refine r_iload X dX8_meanOfLeft_43 0 rfl ?_
      refine r_bd (fun r16 hr16 => ?_)
      refine tw_c_X7_get X dX8_meanOfLeft_45 _ tw_w597 tw_kc136 hr16 (tw_le hfr rfl) (tw_le hlo rfl) hcs (Nat.le_of_ble_eq_true rfl) trivial ?_
      refine r_if_lt X dX8_meanOfLeft_48 (tgt := 63) (by decide) ?_ ?_
      ·
        exact hj14 (a8.1, a8.2.1) trivial
      ·
        refine r_iload_n X dX8_meanOfLeft_51 rfl 2 rfl ?_
        refine r_aload_n X dX8_meanOfLeft_52 rfl 3 rfl ?_
        refine r_iload X dX8_meanOfLeft_53 0 rfl ?_
        refine r_bd (fun r17 hr17 => ?_)
        refine tw_c_X7_get X dX8_meanOfLeft_55 _ tw_w597 tw_kc136 hr17 (tw_le hfr rfl) (tw_le hlo rfl) hcs (Nat.le_of_ble_eq_true rfl) trivial ?_
        refine r_iadd X dX8_meanOfLeft_58 ?_
        refine r_istore_n X dX8_meanOfLeft_59 rfl (by decide) (LL := fun v18 => [(3, .int v18), (5, .int a8.2.2), (4, .int a8.2.1), (2, .ref (tw_zB z + 136)), (1, .ref (tw_zB z + 140))]) (fun _ => rfl) (fun v18 => ?_)
        refine r_iinc X dX8_meanOfLeft_60 2 rfl (v := (1 : Int32)) (by decide) (by decide) (LL := fun v19 => [(4, .int v19), (3, .int v18), (5, .int a8.2.2), (2, .ref (tw_zB z + 136)), (1, .ref (tw_zB z + 140))]) (fun _ => rfl) (fun v19 => ?_)
        exact tw_Rf.sub [2, 0, 1, 3, 4] rfl (hj14 (v18, v19) trivial)
theorem tw_c_X8_meanOfLeft {ρ : Type} {z : tw_Z} {cc : ByteArray} {own : String} {nL pc : Nat} {σ : tw_Sg} {L : List (Nat × Value)} {st : List Value} {ix : Nat} {n : Nat}  (X : tw_X z cc own nL) (d : decode cc pc = .ok (.invokevirtual ix, 3)) (i : Nat) (hi : lw_tbl[i]? = some (.methodLink own ix yX8_meanOfLeft))  {res : ρ} {E : Option ρ} {r : UInt64 × tw_Sg} (h : tw_P_X8_meanOfLeft n σ = some r) (h1 : 5 ≤ (tw_zR z).frames) (h2 : 147 ≤ (tw_zR z).locals) (hcs : tw_zcells z ≤ (tw_zR z).cells ∧ tw_zslots z ≤ (tw_zR z).slots) (hst : (st.map fun v => v.category).sum ≤ 8) (_ : True) (kk : tw_Rf z res E r.2 (pc + 3) L (.double r.1 :: st)) : tw_Rf z res E σ pc L (.ref (tw_zB z + 134) :: st) := r_callV (As := []) X d (tw_m_X8_meanOfLeft  h) tw_y_X8_meanOfLeft tw_v_X8_meanOfLeft i hi rfl (tw_kd_lt tw_kc134 (by decide)) (tw_E8 tw_kc134) rfl ⟨rfl, rfl, h1, h2⟩ hcs hst rfl kk
def tw_P_X9_measureHops (n : Nat) (x0 : Int32) (x1 : Int32) (σ : tw_Sg) : Option (Int32 × tw_Sg) :=
tw_bd (tw_P_X8_distancesFrom n x1 σ) (fun r1 =>
tw_ck (decide (r1.1 = 136)) (
tw_lt (1 : Int32) (fun (v3 : Int32) =>
tw_lt (0 : Int32) (fun (v4 : Int32) =>
tw_lp (fun (k6 : (Int32 × Int32 × tw_Sg) → Option (Int32 × tw_Sg)) (a5 : Int32 × Int32 × tw_Sg) =>
if (a5.2.2 435 2) ≤ a5.2.1 then (tw_ck (tw_01 a5.1) (some (a5.1, a5.2.2)))
else (tw_bd (tw_P_X7_get 436 a5.2.1 a5.2.2) (fun r7 =>
tw_bd (tw_P_X7_get 136 r7 a5.2.2) (fun r8 =>
tw_lt r8 (fun (v9 : Int32) =>
tw_bd (tw_P_X7_put 438 ((x0 * (9 : Int32)) + a5.2.1) v9 a5.2.2) (fun r10 =>
tw_jn (fun (a11 : Int32) =>
tw_lt a11 (fun (v13 : Int32) =>
tw_lt (a5.2.1 + (1 : Int32)) (fun (v14 : Int32) =>
k6 (v13, v14, r10)))) (fun (j12 : (Int32) → Option (Int32 × tw_Sg)) =>
tw_jn (fun (a15 : Unit) =>
j12 (0 : Int32)) (fun (j16 : (Unit) → Option (Int32 × tw_Sg)) =>
if a5.1 = 0 then (j16 ())
else (if v9 < 0 then (j16 ())
else (j12 (1 : Int32))))))))))) n (v3, v4, r1.2)))))
theorem tw_y_X9_measureHops : tw_My yX9_measureHops cX9_measureHops 7 (some .boolean) 2 := ⟨List.mem_of_getElem? tw_w637, List.mem_of_getElem? tw_w100, by decide +kernel, by decide +kernel, by decide +kernel⟩
theorem tw_v_X9_measureHops : tw_Mv yX9_measureHops "TreasureWalk$Tours" := ⟨List.mem_of_getElem? tw_w636, List.mem_of_getElem? tw_w1, rfl⟩
set_option maxRecDepth 100000 in
set_option maxHeartbeats 4000000 in
theorem tw_m_X9_measureHops {l : Launch} {B : Nat} {D : va_G} {C : Nat → ClassId} {S : Nat → Nat} {n : Nat} {x0 : Int32} {x1 : Int32} {σ : tw_Sg}  {r : Int32 × tw_Sg} (h : tw_P_X9_measureHops n x0 x1 σ = some r) : tw_Met l B D C S yX9_measureHops cX9_measureHops 7 (some .boolean) ({ frames := 4, cells := 0, slots := 0, locals := 93 } : Room) [.ref (B + 435), .int x0, .int x1] σ (some (.int r.1)) r.2 := by
  refine tw_metOfP (tw_P_X9_measureHops n x0 x1 σ) r h (fun r => (some (.int r.1), r.2)) (by decide +kernel) (Nat.le_of_ble_eq_true rfl) ⟨rfl, rfl⟩ ?_
  intro z el eB eD eC eS hfr hlo hcs X hret hQ
  subst el eB eD eC eS
  have X : tw_X z cX9_measureHops "TreasureWalk$Tours" 7 := X
  show tw_Rf z r _ σ 0 [(0, .ref (tw_zB z + 435)), (1, .int x0), (2, .int x1)] []
  unfold tw_P_X9_measureHops
  refine r_aload_n X dX9_measureHops_0 rfl 0 rfl ?_
  refine tw_g9_1 (k := 435) (v := .ref (tw_zB z + 134)) X dX9_measureHops_1 _ tw_w461 tw_kc435 rfl ?_
  refine r_iload_n X dX9_measureHops_4 rfl 2 rfl ?_
  refine r_bd (fun r1 hr1 => ?_)
  refine tw_c_X8_distancesFrom X dX9_measureHops_5 _ tw_w638  hr1 (tw_le hfr rfl) (tw_le hlo rfl) hcs (Nat.le_of_ble_eq_true rfl) trivial ?_
  refine r_ck (fun h2 => ?_)
  rw [(of_decide_eq_true h2 : r1.1 = 136)]
  refine r_astore_n X dX9_measureHops_8 rfl (by decide) (L' := [(3, .ref (tw_zB z + 136)), (0, .ref (tw_zB z + 435)), (1, .int x0), (2, .int x1)]) rfl ?_
  refine r_iconst X dX9_measureHops_9 (v := (1 : Int32)) (by decide) ?_
  refine r_istore X dX9_measureHops_10 (by decide) (LL := fun v3 => [(4, .int v3), (3, .ref (tw_zB z + 136)), (0, .ref (tw_zB z + 435)), (1, .int x0), (2, .int x1)]) (fun _ => rfl) (fun v3 => ?_)
  refine r_iconst X dX9_measureHops_12 (v := (0 : Int32)) (by decide) ?_
  refine r_istore X dX9_measureHops_13 (by decide) (LL := fun v4 => [(5, .int v4), (4, .int v3), (3, .ref (tw_zB z + 136)), (0, .ref (tw_zB z + 435)), (1, .int x0), (2, .int x1)]) (fun _ => rfl) (fun v4 => ?_)
  refine tw_Rf.sub [0, 1, 2, 3, 4] rfl ?_
  refine r_lp (α := Int32 × Int32 × tw_Sg) (σJ := fun a5 => a5.2.2) (pcJ := 15) (LJ := fun a5 => [(5, .int a5.2.1), (4, .int a5.1), (3, .ref (tw_zB z + 136)), (0, .ref (tw_zB z + 435)), (1, .int x0)]) (stJ := fun a5 => []) (fun k6 hk6 a5 => ?_) n (v3, v4, r1.2)
  refine r_iload X dX9_measureHops_15 0 rfl ?_
  refine r_aload_n X dX9_measureHops_17 rfl 3 rfl ?_
  refine tw_g9_2 (k := 435) (v := .int (a5.2.2 435 2)) X dX9_measureHops_18 _ tw_w462 tw_kc435 rfl ?_
  refine r_icmp_ge X dX9_measureHops_21 (tgt := 78) (by decide) ?_ ?_
  ·
    refine r_iload X dX9_measureHops_78 1 rfl ?_
    exact r_zret X dX9_measureHops_80 hret hQ rfl
  ·
    refine r_aload_n X dX9_measureHops_24 rfl 2 rfl ?_
    refine r_aload_n X dX9_measureHops_25 rfl 3 rfl ?_
    refine tw_g9_3 (k := 435) (v := .ref (tw_zB z + 436)) X dX9_measureHops_26 _ tw_w463 tw_kc435 rfl ?_
    refine r_iload X dX9_measureHops_29 0 rfl ?_
    refine r_bd (fun r7 hr7 => ?_)
    refine tw_c_X7_get X dX9_measureHops_31 _ tw_w633 tw_kc436 hr7 (tw_le hfr rfl) (tw_le hlo rfl) hcs (Nat.le_of_ble_eq_true rfl) trivial ?_
    refine r_bd (fun r8 hr8 => ?_)
    refine tw_c_X7_get X dX9_measureHops_34 _ tw_w633 tw_kc136 hr8 (tw_le hfr rfl) (tw_le hlo rfl) hcs (Nat.le_of_ble_eq_true rfl) trivial ?_
    refine r_istore X dX9_measureHops_37 (by decide) (LL := fun v9 => [(6, .int v9), (5, .int a5.2.1), (4, .int a5.1), (3, .ref (tw_zB z + 136)), (0, .ref (tw_zB z + 435)), (1, .int x0)]) (fun _ => rfl) (fun v9 => ?_)
    refine r_aload_n X dX9_measureHops_39 rfl 4 rfl ?_
    refine tw_g9_4 (k := 435) (v := .ref (tw_zB z + 438)) X dX9_measureHops_40 _ tw_w464 tw_kc435 rfl ?_
    refine r_iload_n X dX9_measureHops_43 rfl 5 rfl ?_
    refine r_bipush X dX9_measureHops_44 (v := (9 : Int32)) (by decide) ?_
    refine r_imul X dX9_measureHops_46 ?_
    refine r_iload X dX9_measureHops_47 1 rfl ?_
    refine r_iadd X dX9_measureHops_49 ?_
    refine r_iload X dX9_measureHops_50 0 rfl ?_
    refine r_bd (fun r10 hr10 => ?_)
    refine tw_c_X7_put X dX9_measureHops_52 _ tw_w632 tw_kc438 hr10 (tw_le hfr rfl) (tw_le hlo rfl) hcs (Nat.le_of_ble_eq_true rfl) trivial ?_
    refine r_iload X dX9_measureHops_55 2 rfl ?_
    refine r_jn (α := Int32) (σJ := fun a11 => r10) (pcJ := 70) (LJ := fun a11 => [(5, .int a5.2.1), (3, .ref (tw_zB z + 136)), (0, .ref (tw_zB z + 435)), (1, .int x0)]) (stJ := fun a11 => [.int a11]) (ok := fun a11 => True) (fun a11 hoka11 => ?_) (fun j12 hj12 => ?_)
    ·
      refine r_istore X dX9_measureHops_70 (by decide) (LL := fun v13 => [(4, .int v13), (5, .int a5.2.1), (3, .ref (tw_zB z + 136)), (0, .ref (tw_zB z + 435)), (1, .int x0)]) (fun _ => rfl) (fun v13 => ?_)
      refine r_iinc X dX9_measureHops_72 1 rfl (v := (1 : Int32)) (by decide) (by decide) (LL := fun v14 => [(5, .int v14), (4, .int v13), (3, .ref (tw_zB z + 136)), (0, .ref (tw_zB z + 435)), (1, .int x0)]) (fun _ => rfl) (fun v14 => ?_)
      refine r_goto X dX9_measureHops_75 (tgt := 15) (by decide) ?_
      exact hk6 (v13, v14, r10)
    refine r_jn (α := Unit) (σJ := fun a15 => r10) (pcJ := 69) (LJ := fun a15 => [(5, .int a5.2.1), (3, .ref (tw_zB z + 136)), (0, .ref (tw_zB z + 435)), (1, .int x0)]) (stJ := fun a15 => []) (ok := fun a15 => True) (fun a15 hoka15 => ?_) (fun j16 hj16 => ?_)
    ·
      refine r_iconst X dX9_measureHops_69 (v := (0 : Int32)) (by decide) ?_
      exact hj12 (0 : Int32) trivial
    refine r_if_eq X dX9_measureHops_57 (tgt := 69) (by decide) ?_ ?_
    ·
      exact tw_Rf.sub [1, 3, 4, 5] rfl (hj16 () trivial)
    ·
      refine r_iload X dX9_measureHops_60 0 rfl ?_
      refine r_if_lt X dX9_measureHops_62 (tgt := 69) (by decide) ?_ ?_
      ·
        exact tw_Rf.sub [1, 3, 4, 5] rfl (hj16 () trivial)
      ·
        refine r_iconst X dX9_measureHops_65 (v := (1 : Int32)) (by decide) ?_
        refine r_goto X dX9_measureHops_66 (tgt := 70) (by decide) ?_
        exact tw_Rf.sub [1, 3, 4, 5] rfl (hj12 (1 : Int32) trivial)
theorem tw_c_X9_measureHops {ρ : Type} {z : tw_Z} {cc : ByteArray} {own : String} {nL pc : Nat} {σ : tw_Sg} {L : List (Nat × Value)} {st : List Value} {ix : Nat} {n : Nat} {x0 : Int32} {x1 : Int32} (X : tw_X z cc own nL) (d : decode cc pc = .ok (.invokevirtual ix, 3)) (i : Nat) (hi : lw_tbl[i]? = some (.methodLink own ix yX9_measureHops))  {res : ρ} {E : Option ρ} {r : Int32 × tw_Sg} (h : tw_P_X9_measureHops n x0 x1 σ = some r) (h1 : 5 ≤ (tw_zR z).frames) (h2 : 119 ≤ (tw_zR z).locals) (hcs : tw_zcells z ≤ (tw_zR z).cells ∧ tw_zslots z ≤ (tw_zR z).slots) (hst : (st.map fun v => v.category).sum ≤ 8) (_ : True) (kk : tw_Rf z res E r.2 (pc + 3) L (.int r.1 :: st)) : tw_Rf z res E σ pc L (.int x1 :: .int x0 :: .ref (tw_zB z + 435) :: st) := r_callV (As := [.int x0, .int x1]) X d (tw_m_X9_measureHops  h) tw_y_X9_measureHops tw_v_X9_measureHops i hi rfl (tw_kd_lt tw_kc435 (by decide)) (tw_E9 tw_kc435) rfl ⟨rfl, rfl, h1, h2⟩ hcs hst rfl kk
def tw_P_X9_fewestTo (n : Nat) (x0 : Int32) (x1 : Int32) (σ : tw_Sg) : Option (Int32) :=
tw_lt (x0 &&& (((1 : Int32) <<< (x1 &&& 31)) ^^^ (-1 : Int32))) (fun (v1 : Int32) =>
if ¬ v1 = 0 then (tw_lt (1000000 : Int32) (fun (v2 : Int32) =>
tw_lt (0 : Int32) (fun (v3 : Int32) =>
tw_lp (fun (k5 : (Int32 × Int32) → Option (Int32)) (a4 : Int32 × Int32) =>
if (σ 435 2) ≤ a4.2 then (some a4.1)
else (tw_jn (fun (a6 : Int32) =>
tw_lt (a4.2 + (1 : Int32)) (fun (v8 : Int32) =>
k5 (a6, v8))) (fun (j7 : (Int32) → Option (Int32)) =>
if ¬ ((v1 >>> (a4.2 &&& 31)) &&& (1 : Int32)) = (1 : Int32) then (j7 a4.1)
else (tw_bd (tw_P_X7_get 438 ((a4.2 * (9 : Int32)) + x1) σ) (fun r9 =>
tw_lt r9 (fun (v10 : Int32) =>
tw_bd (tw_P_X7_get 440 ((v1 * (9 : Int32)) + a4.2) σ) (fun r11 =>
tw_lt (if (r11 + v10) < a4.1 then (r11 + v10) else a4.1) (fun (v12 : Int32) =>
j7 v12)))))))) n (v2, v3))))
else (tw_bd (tw_P_X7_get 438 (((σ 435 2) * (9 : Int32)) + x1) σ) (fun r13 =>
some r13)))
theorem tw_y_X9_fewestTo : tw_My yX9_fewestTo cX9_fewestTo 7 (some .int) 2 := ⟨List.mem_of_getElem? tw_w646, List.mem_of_getElem? tw_w100, by decide +kernel, by decide +kernel, by decide +kernel⟩
theorem tw_v_X9_fewestTo : tw_Mv yX9_fewestTo "TreasureWalk$Tours" := ⟨List.mem_of_getElem? tw_w645, List.mem_of_getElem? tw_w3, rfl⟩
set_option maxRecDepth 100000 in
set_option maxHeartbeats 4000000 in
theorem tw_m_X9_fewestTo {l : Launch} {B : Nat} {D : va_G} {C : Nat → ClassId} {S : Nat → Nat} {n : Nat} {x0 : Int32} {x1 : Int32} {σ : tw_Sg}  {r : Int32} (h : tw_P_X9_fewestTo n x0 x1 σ = some r) : tw_Met l B D C S yX9_fewestTo cX9_fewestTo 7 (some .int) ({ frames := 1, cells := 0, slots := 0, locals := 21 } : Room) [.ref (B + 435), .int x0, .int x1] σ (some (.int r)) σ := by
  refine tw_metOfP (tw_P_X9_fewestTo n x0 x1 σ) r h (fun r => (some (.int r), σ)) (by decide +kernel) (Nat.le_of_ble_eq_true rfl) ⟨rfl, rfl⟩ ?_
  intro z el eB eD eC eS hfr hlo hcs X hret hQ
  subst el eB eD eC eS
  have X : tw_X z cX9_fewestTo "TreasureWalk$Tours" 7 := X
  show tw_Rf z r _ σ 0 [(0, .ref (tw_zB z + 435)), (1, .int x0), (2, .int x1)] []
  unfold tw_P_X9_fewestTo
  refine r_iload_n X dX9_fewestTo_0 rfl 1 rfl ?_
  refine r_iconst X dX9_fewestTo_1 (v := (1 : Int32)) (by decide) ?_
  refine r_iload_n X dX9_fewestTo_2 rfl 2 rfl ?_
  refine r_ishl X dX9_fewestTo_3 ?_
  refine r_iconst X dX9_fewestTo_4 (v := (-1 : Int32)) (by decide) ?_
  refine r_ixor X dX9_fewestTo_5 ?_
  refine r_iand X dX9_fewestTo_6 ?_
  refine r_istore_n X dX9_fewestTo_7 rfl (by decide) (LL := fun v1 => [(3, .int v1), (0, .ref (tw_zB z + 435)), (1, .int x0), (2, .int x1)]) (fun _ => rfl) (fun v1 => ?_)
  refine r_iload_n X dX9_fewestTo_8 rfl 0 rfl ?_
  refine r_if_ne X dX9_fewestTo_9 (tgt := 29) (by decide) ?_ ?_
  ·
    refine r_ldcI X dX9_fewestTo_29 (v := (1000000 : Int32)) _ tw_w647 ?_
    refine r_istore X dX9_fewestTo_31 (by decide) (LL := fun v2 => [(4, .int v2), (3, .int v1), (0, .ref (tw_zB z + 435)), (1, .int x0), (2, .int x1)]) (fun _ => rfl) (fun v2 => ?_)
    refine r_iconst X dX9_fewestTo_33 (v := (0 : Int32)) (by decide) ?_
    refine r_istore X dX9_fewestTo_34 (by decide) (LL := fun v3 => [(5, .int v3), (4, .int v2), (3, .int v1), (0, .ref (tw_zB z + 435)), (1, .int x0), (2, .int x1)]) (fun _ => rfl) (fun v3 => ?_)
    refine tw_Rf.sub [0, 1, 2, 3, 5] rfl ?_
    refine r_lp (α := Int32 × Int32) (σJ := fun a4 => σ) (pcJ := 36) (LJ := fun a4 => [(5, .int a4.2), (4, .int a4.1), (3, .int v1), (0, .ref (tw_zB z + 435)), (2, .int x1)]) (stJ := fun a4 => []) (fun k5 hk5 a4 => ?_) n (v2, v3)
    refine r_iload X dX9_fewestTo_36 0 rfl ?_
    refine r_aload_n X dX9_fewestTo_38 rfl 3 rfl ?_
    refine tw_g9_2 (k := 435) (v := .int (σ 435 2)) X dX9_fewestTo_39 _ tw_w462 tw_kc435 rfl ?_
    refine r_icmp_ge X dX9_fewestTo_42 (tgt := 101) (by decide) ?_ ?_
    ·
      refine r_iload X dX9_fewestTo_101 1 rfl ?_
      exact r_iret X dX9_fewestTo_103 hret hQ rfl
    ·
      refine r_iload_n X dX9_fewestTo_45 rfl 2 rfl ?_
      refine r_iload X dX9_fewestTo_46 0 rfl ?_
      refine r_ishr X dX9_fewestTo_48 ?_
      refine r_iconst X dX9_fewestTo_49 (v := (1 : Int32)) (by decide) ?_
      refine r_iand X dX9_fewestTo_50 ?_
      refine r_iconst X dX9_fewestTo_51 (v := (1 : Int32)) (by decide) ?_
      refine r_jn (α := Int32) (σJ := fun a6 => σ) (pcJ := 95) (LJ := fun a6 => [(5, .int a4.2), (4, .int a6), (3, .int v1), (0, .ref (tw_zB z + 435)), (2, .int x1)]) (stJ := fun a6 => []) (ok := fun a6 => True) (fun a6 hoka6 => ?_) (fun j7 hj7 => ?_)
      ·
        refine r_iinc X dX9_fewestTo_95 0 rfl (v := (1 : Int32)) (by decide) (by decide) (LL := fun v8 => [(5, .int v8), (4, .int a6), (3, .int v1), (0, .ref (tw_zB z + 435)), (2, .int x1)]) (fun _ => rfl) (fun v8 => ?_)
        refine r_goto X dX9_fewestTo_98 (tgt := 36) (by decide) ?_
        exact hk5 (a6, v8)
      refine r_icmp_ne X dX9_fewestTo_52 (tgt := 95) (by decide) ?_ ?_
      ·
        exact hj7 a4.1 trivial
      ·
        refine r_aload_n X dX9_fewestTo_55 rfl 3 rfl ?_
        refine tw_g9_4 (k := 435) (v := .ref (tw_zB z + 438)) X dX9_fewestTo_56 _ tw_w464 tw_kc435 rfl ?_
        refine r_iload X dX9_fewestTo_59 0 rfl ?_
        refine r_bipush X dX9_fewestTo_61 (v := (9 : Int32)) (by decide) ?_
        refine r_imul X dX9_fewestTo_63 ?_
        refine r_iload_n X dX9_fewestTo_64 rfl 4 rfl ?_
        refine r_iadd X dX9_fewestTo_65 ?_
        refine r_bd (fun r9 hr9 => ?_)
        refine tw_c_X7_get X dX9_fewestTo_66 _ tw_w633 tw_kc438 hr9 (tw_le hfr rfl) (tw_le hlo rfl) hcs (Nat.le_of_ble_eq_true rfl) trivial ?_
        refine r_istore X dX9_fewestTo_69 (by decide) (LL := fun v10 => [(6, .int v10), (5, .int a4.2), (4, .int a4.1), (3, .int v1), (0, .ref (tw_zB z + 435)), (2, .int x1)]) (fun _ => rfl) (fun v10 => ?_)
        refine r_iload X dX9_fewestTo_71 2 rfl ?_
        refine r_aload_n X dX9_fewestTo_73 rfl 4 rfl ?_
        refine tw_g9_5 (k := 435) (v := .ref (tw_zB z + 440)) X dX9_fewestTo_74 _ tw_w465 tw_kc435 rfl ?_
        refine r_iload_n X dX9_fewestTo_77 rfl 3 rfl ?_
        refine r_bipush X dX9_fewestTo_78 (v := (9 : Int32)) (by decide) ?_
        refine r_imul X dX9_fewestTo_80 ?_
        refine r_iload X dX9_fewestTo_81 1 rfl ?_
        refine r_iadd X dX9_fewestTo_83 ?_
        refine r_bd (fun r11 hr11 => ?_)
        refine tw_c_X7_get X dX9_fewestTo_84 _ tw_w633 tw_kc440 hr11 (tw_le hfr rfl) (tw_le hlo rfl) hcs (Nat.le_of_ble_eq_true rfl) trivial ?_
        refine r_iload X dX9_fewestTo_87 0 rfl ?_
        refine r_iadd X dX9_fewestTo_89 ?_
        refine tw_mmin X dX9_fewestTo_90 _ tw_w648 (tw_le hfr rfl) (tw_le hlo rfl) hcs ?_
        refine r_istore X dX9_fewestTo_93 (by decide) (LL := fun v12 => [(4, .int v12), (6, .int v10), (5, .int a4.2), (3, .int v1), (0, .ref (tw_zB z + 435)), (2, .int x1)]) (fun _ => rfl) (fun v12 => ?_)
        exact tw_Rf.sub [2, 0, 3, 4, 5] rfl (hj7 v12 trivial)
  ·
    refine r_aload_n X dX9_fewestTo_12 rfl 1 rfl ?_
    refine tw_g9_4 (k := 435) (v := .ref (tw_zB z + 438)) X dX9_fewestTo_13 _ tw_w464 tw_kc435 rfl ?_
    refine r_aload_n X dX9_fewestTo_16 rfl 1 rfl ?_
    refine tw_g9_2 (k := 435) (v := .int (σ 435 2)) X dX9_fewestTo_17 _ tw_w462 tw_kc435 rfl ?_
    refine r_bipush X dX9_fewestTo_20 (v := (9 : Int32)) (by decide) ?_
    refine r_imul X dX9_fewestTo_22 ?_
    refine r_iload_n X dX9_fewestTo_23 rfl 3 rfl ?_
    refine r_iadd X dX9_fewestTo_24 ?_
    refine r_bd (fun r13 hr13 => ?_)
    refine tw_c_X7_get X dX9_fewestTo_25 _ tw_w633 tw_kc438 hr13 (tw_le hfr rfl) (tw_le hlo rfl) hcs (Nat.le_of_ble_eq_true rfl) trivial ?_
    exact r_iret X dX9_fewestTo_28 hret hQ rfl
theorem tw_c_X9_fewestTo {ρ : Type} {z : tw_Z} {cc : ByteArray} {own : String} {nL pc : Nat} {σ : tw_Sg} {L : List (Nat × Value)} {st : List Value} {ix : Nat} {n : Nat} {x0 : Int32} {x1 : Int32} (X : tw_X z cc own nL) (d : decode cc pc = .ok (.invokevirtual ix, 3)) (i : Nat) (hi : lw_tbl[i]? = some (.methodLink own ix yX9_fewestTo))  {res : ρ} {E : Option ρ} {r : Int32} (h : tw_P_X9_fewestTo n x0 x1 σ = some r) (h1 : 2 ≤ (tw_zR z).frames) (h2 : 47 ≤ (tw_zR z).locals) (hcs : tw_zcells z ≤ (tw_zR z).cells ∧ tw_zslots z ≤ (tw_zR z).slots) (hst : (st.map fun v => v.category).sum ≤ 8) (_ : True) (kk : tw_Rf z res E σ (pc + 3) L (.int r :: st)) : tw_Rf z res E σ pc L (.int x1 :: .int x0 :: .ref (tw_zB z + 435) :: st) := r_callV (As := [.int x0, .int x1]) X d (tw_m_X9_fewestTo  h) tw_y_X9_fewestTo tw_v_X9_fewestTo i hi rfl (tw_kd_lt tw_kc435 (by decide)) (tw_E9 tw_kc435) rfl ⟨rfl, rfl, h1, h2⟩ hcs hst rfl kk
def tw_P_X9_joinHops (n : Nat)  (σ : tw_Sg) : Option (Int32 × tw_Sg) :=
tw_lt (((1 : Int32) <<< ((σ 435 2) &&& 31)) - (1 : Int32)) (fun (v1 : Int32) =>
tw_lt (1 : Int32) (fun (v2 : Int32) =>
tw_lp (fun (k4 : (Int32 × tw_Sg) → Option (Int32 × tw_Sg)) (a3 : Int32 × tw_Sg) =>
tw_jn (fun (a5 : Unit) =>
tw_bd (tw_P_X7_get 440 (v1 * (9 : Int32)) a3.2) (fun r7 =>
tw_lt r7 (fun (v8 : Int32) =>
tw_lt (1 : Int32) (fun (v9 : Int32) =>
tw_lp (fun (k11 : (Int32 × Int32 × tw_Sg) → Option (Int32 × tw_Sg)) (a10 : Int32 × Int32 × tw_Sg) =>
if (a10.2.2 435 2) ≤ a10.2.1 then (some (a10.1, a10.2.2))
else (tw_bd (tw_P_X7_get 440 ((v1 * (9 : Int32)) + a10.2.1) a10.2.2) (fun r12 =>
tw_lt (if r12 < a10.1 then r12 else a10.1) (fun (v13 : Int32) =>
tw_lt (a10.2.1 + (1 : Int32)) (fun (v14 : Int32) =>
k11 (v13, v14, a10.2.2)))))) n (v8, v9, a3.2))))) (fun (j6 : (Unit) → Option (Int32 × tw_Sg)) =>
if v1 < a3.1 then (j6 ())
else (if (512 : Int32) ≤ a3.1 then (j6 ())
else (tw_lt (0 : Int32) (fun (v15 : Int32) =>
tw_lp (fun (k17 : (Int32 × Int32 × tw_Sg) → Option (Int32 × tw_Sg)) (a16 : Int32 × Int32 × tw_Sg) =>
if (a16.2.2 435 2) ≤ a16.2.1 then (tw_lt (a16.1 + (1 : Int32)) (fun (v18 : Int32) =>
k4 (v18, a16.2.2)))
else (tw_jn (fun (a19 : tw_Sg) =>
tw_lt (a16.2.1 + (1 : Int32)) (fun (v21 : Int32) =>
k17 (a16.1, v21, a19))) (fun (j20 : (tw_Sg) → Option (Int32 × tw_Sg)) =>
if ¬ ((a16.1 >>> (a16.2.1 &&& 31)) &&& (1 : Int32)) = (1 : Int32) then (j20 a16.2.2)
else (tw_bd (tw_P_X9_fewestTo n a16.1 a16.2.1 a16.2.2) (fun r22 =>
tw_bd (tw_P_X7_put 440 ((a16.1 * (9 : Int32)) + a16.2.1) r22 a16.2.2) (fun r23 =>
j20 r23)))))) n (a3.1, v15, a3.2)))))) n (v2, σ)))
theorem tw_y_X9_joinHops : tw_My yX9_joinHops cX9_joinHops 4 (some .int) 0 := ⟨List.mem_of_getElem? tw_w642, List.mem_of_getElem? tw_w100, by decide +kernel, by decide +kernel, by decide +kernel⟩
theorem tw_v_X9_joinHops : tw_Mv yX9_joinHops "TreasureWalk$Tours" := ⟨List.mem_of_getElem? tw_w641, List.mem_of_getElem? tw_w2, rfl⟩
set_option maxRecDepth 100000 in
set_option maxHeartbeats 4000000 in
theorem tw_m_X9_joinHops {l : Launch} {B : Nat} {D : va_G} {C : Nat → ClassId} {S : Nat → Nat} {n : Nat}  {σ : tw_Sg}  {r : Int32 × tw_Sg} (h : tw_P_X9_joinHops n σ = some r) : tw_Met l B D C S yX9_joinHops cX9_joinHops 4 (some .int) ({ frames := 2, cells := 0, slots := 0, locals := 47 } : Room) [.ref (B + 435)] σ (some (.int r.1)) r.2 := by
  refine tw_metOfP (tw_P_X9_joinHops n σ) r h (fun r => (some (.int r.1), r.2)) (by decide +kernel) (Nat.le_of_ble_eq_true rfl) ⟨rfl, rfl⟩ ?_
  intro z el eB eD eC eS hfr hlo hcs X hret hQ
  subst el eB eD eC eS
  have X : tw_X z cX9_joinHops "TreasureWalk$Tours" 4 := X
  show tw_Rf z r _ σ 0 [(0, .ref (tw_zB z + 435))] []
  unfold tw_P_X9_joinHops
  refine r_iconst X dX9_joinHops_0 (v := (1 : Int32)) (by decide) ?_
  refine r_aload_n X dX9_joinHops_1 rfl 0 rfl ?_
  refine tw_g9_2 (k := 435) (v := .int (σ 435 2)) X dX9_joinHops_2 _ tw_w462 tw_kc435 rfl ?_
  refine r_ishl X dX9_joinHops_5 ?_
  refine r_iconst X dX9_joinHops_6 (v := (1 : Int32)) (by decide) ?_
  refine r_isub X dX9_joinHops_7 ?_
  refine r_istore_n X dX9_joinHops_8 rfl (by decide) (LL := fun v1 => [(1, .int v1), (0, .ref (tw_zB z + 435))]) (fun _ => rfl) (fun v1 => ?_)
  refine r_iconst X dX9_joinHops_9 (v := (1 : Int32)) (by decide) ?_
  refine r_istore_n X dX9_joinHops_10 rfl (by decide) (LL := fun v2 => [(2, .int v2), (1, .int v1), (0, .ref (tw_zB z + 435))]) (fun _ => rfl) (fun v2 => ?_)
  refine r_lp (α := Int32 × tw_Sg) (σJ := fun a3 => a3.2) (pcJ := 11) (LJ := fun a3 => [(2, .int a3.1), (1, .int v1), (0, .ref (tw_zB z + 435))]) (stJ := fun a3 => []) (fun k4 hk4 a3 => ?_) n (v2, σ)
  refine r_iload_n X dX9_joinHops_11 rfl 0 rfl ?_
  refine r_iload_n X dX9_joinHops_12 rfl 1 rfl ?_
  refine r_jn (α := Unit) (σJ := fun a5 => a3.2) (pcJ := 73) (LJ := fun a5 => [(1, .int v1), (0, .ref (tw_zB z + 435))]) (stJ := fun a5 => []) (ok := fun a5 => True) (fun a5 hoka5 => ?_) (fun j6 hj6 => ?_)
  ·
    refine r_aload_n X dX9_joinHops_73 rfl 1 rfl ?_
    refine tw_g9_5 (k := 435) (v := .ref (tw_zB z + 440)) X dX9_joinHops_74 _ tw_w465 tw_kc435 rfl ?_
    refine r_iload_n X dX9_joinHops_77 rfl 0 rfl ?_
    refine r_bipush X dX9_joinHops_78 (v := (9 : Int32)) (by decide) ?_
    refine r_imul X dX9_joinHops_80 ?_
    refine r_bd (fun r7 hr7 => ?_)
    refine tw_c_X7_get X dX9_joinHops_81 _ tw_w633 tw_kc440 hr7 (tw_le hfr rfl) (tw_le hlo rfl) hcs (Nat.le_of_ble_eq_true rfl) trivial ?_
    refine r_istore_n X dX9_joinHops_84 rfl (by decide) (LL := fun v8 => [(2, .int v8), (1, .int v1), (0, .ref (tw_zB z + 435))]) (fun _ => rfl) (fun v8 => ?_)
    refine r_iconst X dX9_joinHops_85 (v := (1 : Int32)) (by decide) ?_
    refine r_istore_n X dX9_joinHops_86 rfl (by decide) (LL := fun v9 => [(3, .int v9), (2, .int v8), (1, .int v1), (0, .ref (tw_zB z + 435))]) (fun _ => rfl) (fun v9 => ?_)
    refine r_lp (α := Int32 × Int32 × tw_Sg) (σJ := fun a10 => a10.2.2) (pcJ := 87) (LJ := fun a10 => [(3, .int a10.2.1), (2, .int a10.1), (1, .int v1), (0, .ref (tw_zB z + 435))]) (stJ := fun a10 => []) (fun k11 hk11 a10 => ?_) n (v8, v9, a3.2)
    refine r_iload_n X dX9_joinHops_87 rfl 0 rfl ?_
    refine r_aload_n X dX9_joinHops_88 rfl 3 rfl ?_
    refine tw_g9_2 (k := 435) (v := .int (a10.2.2 435 2)) X dX9_joinHops_89 _ tw_w462 tw_kc435 rfl ?_
    refine r_icmp_ge X dX9_joinHops_92 (tgt := 119) (by decide) ?_ ?_
    ·
      refine r_iload_n X dX9_joinHops_119 rfl 1 rfl ?_
      exact r_iret X dX9_joinHops_120 hret hQ rfl
    ·
      refine r_iload_n X dX9_joinHops_95 rfl 1 rfl ?_
      refine r_aload_n X dX9_joinHops_96 rfl 3 rfl ?_
      refine tw_g9_5 (k := 435) (v := .ref (tw_zB z + 440)) X dX9_joinHops_97 _ tw_w465 tw_kc435 rfl ?_
      refine r_iload_n X dX9_joinHops_100 rfl 2 rfl ?_
      refine r_bipush X dX9_joinHops_101 (v := (9 : Int32)) (by decide) ?_
      refine r_imul X dX9_joinHops_103 ?_
      refine r_iload_n X dX9_joinHops_104 rfl 0 rfl ?_
      refine r_iadd X dX9_joinHops_105 ?_
      refine r_bd (fun r12 hr12 => ?_)
      refine tw_c_X7_get X dX9_joinHops_106 _ tw_w633 tw_kc440 hr12 (tw_le hfr rfl) (tw_le hlo rfl) hcs (Nat.le_of_ble_eq_true rfl) trivial ?_
      refine tw_mmin X dX9_joinHops_109 _ tw_w648 (tw_le hfr rfl) (tw_le hlo rfl) hcs ?_
      refine r_istore_n X dX9_joinHops_112 rfl (by decide) (LL := fun v13 => [(2, .int v13), (3, .int a10.2.1), (1, .int v1), (0, .ref (tw_zB z + 435))]) (fun _ => rfl) (fun v13 => ?_)
      refine r_iinc X dX9_joinHops_113 1 rfl (v := (1 : Int32)) (by decide) (by decide) (LL := fun v14 => [(3, .int v14), (2, .int v13), (1, .int v1), (0, .ref (tw_zB z + 435))]) (fun _ => rfl) (fun v14 => ?_)
      refine r_goto X dX9_joinHops_116 (tgt := 87) (by decide) ?_
      exact hk11 (v13, v14, a10.2.2)
  refine r_icmp_gt X dX9_joinHops_13 (tgt := 73) (by decide) ?_ ?_
  ·
    exact tw_Rf.sub [1, 2] rfl (hj6 () trivial)
  ·
    refine r_iload_n X dX9_joinHops_16 rfl 0 rfl ?_
    refine r_sipush X dX9_joinHops_17 (v := (512 : Int32)) (by decide) ?_
    refine r_icmp_ge X dX9_joinHops_20 (tgt := 73) (by decide) ?_ ?_
    ·
      exact tw_Rf.sub [1, 2] rfl (hj6 () trivial)
    ·
      refine r_iconst X dX9_joinHops_23 (v := (0 : Int32)) (by decide) ?_
      refine r_istore_n X dX9_joinHops_24 rfl (by decide) (LL := fun v15 => [(3, .int v15), (2, .int a3.1), (1, .int v1), (0, .ref (tw_zB z + 435))]) (fun _ => rfl) (fun v15 => ?_)
      refine r_lp (α := Int32 × Int32 × tw_Sg) (σJ := fun a16 => a16.2.2) (pcJ := 25) (LJ := fun a16 => [(3, .int a16.2.1), (2, .int a16.1), (1, .int v1), (0, .ref (tw_zB z + 435))]) (stJ := fun a16 => []) (fun k17 hk17 a16 => ?_) n (a3.1, v15, a3.2)
      refine r_iload_n X dX9_joinHops_25 rfl 0 rfl ?_
      refine r_aload_n X dX9_joinHops_26 rfl 3 rfl ?_
      refine tw_g9_2 (k := 435) (v := .int (a16.2.2 435 2)) X dX9_joinHops_27 _ tw_w462 tw_kc435 rfl ?_
      refine r_icmp_ge X dX9_joinHops_30 (tgt := 67) (by decide) ?_ ?_
      ·
        refine r_iinc X dX9_joinHops_67 1 rfl (v := (1 : Int32)) (by decide) (by decide) (LL := fun v18 => [(2, .int v18), (3, .int a16.2.1), (1, .int v1), (0, .ref (tw_zB z + 435))]) (fun _ => rfl) (fun v18 => ?_)
        refine r_goto X dX9_joinHops_70 (tgt := 11) (by decide) ?_
        exact tw_Rf.sub [0, 2, 3] rfl (hk4 (v18, a16.2.2))
      ·
        refine r_iload_n X dX9_joinHops_33 rfl 1 rfl ?_
        refine r_iload_n X dX9_joinHops_34 rfl 0 rfl ?_
        refine r_ishr X dX9_joinHops_35 ?_
        refine r_iconst X dX9_joinHops_36 (v := (1 : Int32)) (by decide) ?_
        refine r_iand X dX9_joinHops_37 ?_
        refine r_iconst X dX9_joinHops_38 (v := (1 : Int32)) (by decide) ?_
        refine r_jn (α := tw_Sg) (σJ := fun a19 => a19) (pcJ := 61) (LJ := fun a19 => [(3, .int a16.2.1), (2, .int a16.1), (1, .int v1), (0, .ref (tw_zB z + 435))]) (stJ := fun a19 => []) (ok := fun a19 => True) (fun a19 hoka19 => ?_) (fun j20 hj20 => ?_)
        ·
          refine r_iinc X dX9_joinHops_61 0 rfl (v := (1 : Int32)) (by decide) (by decide) (LL := fun v21 => [(3, .int v21), (2, .int a16.1), (1, .int v1), (0, .ref (tw_zB z + 435))]) (fun _ => rfl) (fun v21 => ?_)
          refine r_goto X dX9_joinHops_64 (tgt := 25) (by decide) ?_
          exact hk17 (a16.1, v21, a19)
        refine r_icmp_ne X dX9_joinHops_39 (tgt := 61) (by decide) ?_ ?_
        ·
          exact hj20 a16.2.2 trivial
        ·
          refine r_aload_n X dX9_joinHops_42 rfl 3 rfl ?_
          refine tw_g9_5 (k := 435) (v := .ref (tw_zB z + 440)) X dX9_joinHops_43 _ tw_w465 tw_kc435 rfl ?_
          refine r_iload_n X dX9_joinHops_46 rfl 1 rfl ?_
          refine r_bipush X dX9_joinHops_47 (v := (9 : Int32)) (by decide) ?_
          refine r_imul X dX9_joinHops_49 ?_
          refine r_iload_n X dX9_joinHops_50 rfl 0 rfl ?_
          refine r_iadd X dX9_joinHops_51 ?_
          refine r_aload_n X dX9_joinHops_52 rfl 3 rfl ?_
          refine r_iload_n X dX9_joinHops_53 rfl 1 rfl ?_
          refine r_iload_n X dX9_joinHops_54 rfl 0 rfl ?_
          refine r_bd (fun r22 hr22 => ?_)
          refine tw_c_X9_fewestTo X dX9_joinHops_55 _ tw_w643  hr22 (tw_le hfr rfl) (tw_le hlo rfl) hcs (Nat.le_of_ble_eq_true rfl) trivial ?_
          refine r_bd (fun r23 hr23 => ?_)
          refine tw_c_X7_put X dX9_joinHops_58 _ tw_w632 tw_kc440 hr23 (tw_le hfr rfl) (tw_le hlo rfl) hcs (Nat.le_of_ble_eq_true rfl) trivial ?_
          exact hj20 r23 trivial
theorem tw_c_X9_joinHops {ρ : Type} {z : tw_Z} {cc : ByteArray} {own : String} {nL pc : Nat} {σ : tw_Sg} {L : List (Nat × Value)} {st : List Value} {ix : Nat} {n : Nat}  (X : tw_X z cc own nL) (d : decode cc pc = .ok (.invokevirtual ix, 3)) (i : Nat) (hi : lw_tbl[i]? = some (.methodLink own ix yX9_joinHops))  {res : ρ} {E : Option ρ} {r : Int32 × tw_Sg} (h : tw_P_X9_joinHops n σ = some r) (h1 : 3 ≤ (tw_zR z).frames) (h2 : 70 ≤ (tw_zR z).locals) (hcs : tw_zcells z ≤ (tw_zR z).cells ∧ tw_zslots z ≤ (tw_zR z).slots) (hst : (st.map fun v => v.category).sum ≤ 8) (_ : True) (kk : tw_Rf z res E r.2 (pc + 3) L (.int r.1 :: st)) : tw_Rf z res E σ pc L (.ref (tw_zB z + 435) :: st) := r_callV (As := []) X d (tw_m_X9_joinHops  h) tw_y_X9_joinHops tw_v_X9_joinHops i hi rfl (tw_kd_lt tw_kc435 (by decide)) (tw_E9 tw_kc435) rfl ⟨rfl, rfl, h1, h2⟩ hcs hst rfl kk
def tw_P_X9_shortest (n : Nat)  (σ : tw_Sg) : Option (Int32 × tw_Sg) :=
tw_bd (tw_P_X8_left n σ) (fun r1 =>
tw_ck (decide (r1.1 = 140)) (
tw_bd (tw_P_X0_count n 140 r1.2) (fun r3 =>
tw_lt (tw_up r1.2 435 2 r3) (fun (σ4 : tw_Sg) =>
if ¬ (σ4 435 2) = 0 then (if (σ4 435 2) ≤ (9 : Int32) then (tw_lt (0 : Int32) (fun (v5 : Int32) =>
tw_lp (fun (k7 : (Int32 × tw_Sg) → Option (Int32 × tw_Sg)) (a6 : Int32 × tw_Sg) =>
if (a6.2 435 2) ≤ a6.1 then (tw_lt (0 : Int32) (fun (v8 : Int32) =>
tw_lp (fun (k10 : (Int32 × tw_Sg) → Option (Int32 × tw_Sg)) (a9 : Int32 × tw_Sg) =>
if (a9.2 435 2) ≤ a9.1 then (tw_bd (tw_P_X9_measureHops n (a9.2 435 2) (a9.2 1 10) a9.2) (fun r11 =>
if ¬ r11.1 = 0 then (tw_bd (tw_P_X9_joinHops n r11.2) (fun r12 =>
some (r12.1, r12.2)))
else (some ((-1 : Int32), r11.2))))
else (tw_bd (tw_P_X7_get 436 a9.1 a9.2) (fun r13 =>
tw_bd (tw_P_X9_measureHops n a9.1 r13 a9.2) (fun r14 =>
tw_lt (a9.1 + (1 : Int32)) (fun (v15 : Int32) =>
k10 (v15, r14.2)))))) n (v8, a6.2)))
else (tw_bd (tw_P_X0_at n 140 a6.1 a6.2) (fun r16 =>
tw_bd (tw_P_X7_put 436 a6.1 r16 a6.2) (fun r17 =>
tw_lt (a6.1 + (1 : Int32)) (fun (v18 : Int32) =>
k7 (v18, r17)))))) n (v5, σ4)))
else (some ((-2 : Int32), σ4)))
else (some ((0 : Int32), σ4))))))
theorem tw_y_X9_shortest : tw_My yX9_shortest cX9_shortest 3 (some .int) 0 := ⟨List.mem_of_getElem? tw_w615, List.mem_of_getElem? tw_w100, by decide +kernel, by decide +kernel, by decide +kernel⟩
theorem tw_v_X9_shortest : tw_Mv yX9_shortest "TreasureWalk$Tours" := ⟨List.mem_of_getElem? tw_w613, List.mem_of_getElem? tw_w614, rfl⟩
set_option maxRecDepth 100000 in
set_option maxHeartbeats 4000000 in
theorem tw_m_X9_shortest {l : Launch} {B : Nat} {D : va_G} {C : Nat → ClassId} {S : Nat → Nat} {n : Nat}  {σ : tw_Sg}  {r : Int32 × tw_Sg} (h : tw_P_X9_shortest n σ = some r) : tw_Met l B D C S yX9_shortest cX9_shortest 3 (some .int) ({ frames := 5, cells := 0, slots := 0, locals := 122 } : Room) [.ref (B + 435)] σ (some (.int r.1)) r.2 := by
  refine tw_metOfP (tw_P_X9_shortest n σ) r h (fun r => (some (.int r.1), r.2)) (by decide +kernel) (Nat.le_of_ble_eq_true rfl) ⟨rfl, rfl⟩ ?_
  intro z el eB eD eC eS hfr hlo hcs X hret hQ
  subst el eB eD eC eS
  have X : tw_X z cX9_shortest "TreasureWalk$Tours" 3 := X
  show tw_Rf z r _ σ 0 [(0, .ref (tw_zB z + 435))] []
  unfold tw_P_X9_shortest
  refine r_aload_n X dX9_shortest_0 rfl 0 rfl ?_
  refine tw_g9_1 (k := 435) (v := .ref (tw_zB z + 134)) X dX9_shortest_1 _ tw_w461 tw_kc435 rfl ?_
  refine r_bd (fun r1 hr1 => ?_)
  refine tw_c_X8_left X dX9_shortest_4 _ tw_w616  hr1 (tw_le hfr rfl) (tw_le hlo rfl) hcs (Nat.le_of_ble_eq_true rfl) trivial ?_
  refine r_ck (fun h2 => ?_)
  rw [(of_decide_eq_true h2 : r1.1 = 140)]
  refine r_astore_n X dX9_shortest_7 rfl (by decide) (L' := [(1, .ref (tw_zB z + 140)), (0, .ref (tw_zB z + 435))]) rfl ?_
  refine r_aload_n X dX9_shortest_8 rfl 1 rfl ?_
  refine r_aload_n X dX9_shortest_9 rfl 0 rfl ?_
  refine r_bd (fun r3 hr3 => ?_)
  refine tw_c_X0_count X dX9_shortest_10 _ tw_w617 tw_kc140 hr3 (tw_le hfr rfl) (tw_le hlo rfl) hcs (Nat.le_of_ble_eq_true rfl) trivial ?_
  refine tw_s9_2 (k := 435) X dX9_shortest_13 _ tw_w462 tw_kc435 (fun σ4 => ?_)
  refine r_aload_n X dX9_shortest_16 rfl 1 rfl ?_
  refine tw_g9_2 (k := 435) (v := .int (σ4 435 2)) X dX9_shortest_17 _ tw_w462 tw_kc435 rfl ?_
  refine r_if_ne X dX9_shortest_20 (tgt := 25) (by decide) ?_ ?_
  ·
    refine r_aload_n X dX9_shortest_25 rfl 1 rfl ?_
    refine tw_g9_2 (k := 435) (v := .int (σ4 435 2)) X dX9_shortest_26 _ tw_w462 tw_kc435 rfl ?_
    refine r_bipush X dX9_shortest_29 (v := (9 : Int32)) (by decide) ?_
    refine r_icmp_le X dX9_shortest_31 (tgt := 37) (by decide) ?_ ?_
    ·
      refine r_iconst X dX9_shortest_37 (v := (0 : Int32)) (by decide) ?_
      refine r_istore_n X dX9_shortest_38 rfl (by decide) (LL := fun v5 => [(2, .int v5), (1, .ref (tw_zB z + 140)), (0, .ref (tw_zB z + 435))]) (fun _ => rfl) (fun v5 => ?_)
      refine r_lp (α := Int32 × tw_Sg) (σJ := fun a6 => a6.2) (pcJ := 39) (LJ := fun a6 => [(2, .int a6.1), (1, .ref (tw_zB z + 140)), (0, .ref (tw_zB z + 435))]) (stJ := fun a6 => []) (fun k7 hk7 a6 => ?_) n (v5, σ4)
      refine r_iload_n X dX9_shortest_39 rfl 0 rfl ?_
      refine r_aload_n X dX9_shortest_40 rfl 2 rfl ?_
      refine tw_g9_2 (k := 435) (v := .int (a6.2 435 2)) X dX9_shortest_41 _ tw_w462 tw_kc435 rfl ?_
      refine r_icmp_ge X dX9_shortest_44 (tgt := 66) (by decide) ?_ ?_
      ·
        refine r_iconst X dX9_shortest_66 (v := (0 : Int32)) (by decide) ?_
        refine r_istore_n X dX9_shortest_67 rfl (by decide) (LL := fun v8 => [(2, .int v8), (1, .ref (tw_zB z + 140)), (0, .ref (tw_zB z + 435))]) (fun _ => rfl) (fun v8 => ?_)
        refine tw_Rf.sub [0, 2] rfl ?_
        refine r_lp (α := Int32 × tw_Sg) (σJ := fun a9 => a9.2) (pcJ := 68) (LJ := fun a9 => [(2, .int a9.1), (0, .ref (tw_zB z + 435))]) (stJ := fun a9 => []) (fun k10 hk10 a9 => ?_) n (v8, a6.2)
        refine r_iload_n X dX9_shortest_68 rfl 0 rfl ?_
        refine r_aload_n X dX9_shortest_69 rfl 1 rfl ?_
        refine tw_g9_2 (k := 435) (v := .int (a9.2 435 2)) X dX9_shortest_70 _ tw_w462 tw_kc435 rfl ?_
        refine r_icmp_ge X dX9_shortest_73 (tgt := 96) (by decide) ?_ ?_
        ·
          refine r_aload_n X dX9_shortest_96 rfl 1 rfl ?_
          refine r_aload_n X dX9_shortest_97 rfl 1 rfl ?_
          refine tw_g9_2 (k := 435) (v := .int (a9.2 435 2)) X dX9_shortest_98 _ tw_w462 tw_kc435 rfl ?_
          refine r_aload_n X dX9_shortest_101 rfl 1 rfl ?_
          refine tw_g9_0 (k := 435) (v := .ref (tw_zB z + 1)) X dX9_shortest_102 _ tw_w460 tw_kc435 rfl ?_
          refine tw_g2_10N (k := 1) (v := .int (a9.2 1 10)) X dX9_shortest_105 _ tw_w243 tw_kc1 rfl ?_
          refine r_bd (fun r11 hr11 => ?_)
          refine tw_c_X9_measureHops X dX9_shortest_108 _ tw_w634  hr11 (tw_le hfr rfl) (tw_le hlo rfl) hcs (Nat.le_of_ble_eq_true rfl) trivial ?_
          refine r_if_ne X dX9_shortest_111 (tgt := 116) (by decide) ?_ ?_
          ·
            refine r_aload_n X dX9_shortest_116 rfl 1 rfl ?_
            refine r_bd (fun r12 hr12 => ?_)
            refine tw_c_X9_joinHops X dX9_shortest_117 _ tw_w639  hr12 (tw_le hfr rfl) (tw_le hlo rfl) hcs (Nat.le_of_ble_eq_true rfl) trivial ?_
            exact r_iret X dX9_shortest_120 hret hQ rfl
          ·
            refine r_iconst X dX9_shortest_114 (v := (-1 : Int32)) (by decide) ?_
            exact r_iret X dX9_shortest_115 hret hQ rfl
        ·
          refine r_aload_n X dX9_shortest_76 rfl 1 rfl ?_
          refine r_iload_n X dX9_shortest_77 rfl 0 rfl ?_
          refine r_aload_n X dX9_shortest_78 rfl 1 rfl ?_
          refine tw_g9_3 (k := 435) (v := .ref (tw_zB z + 436)) X dX9_shortest_79 _ tw_w463 tw_kc435 rfl ?_
          refine r_iload_n X dX9_shortest_82 rfl 0 rfl ?_
          refine r_bd (fun r13 hr13 => ?_)
          refine tw_c_X7_get X dX9_shortest_83 _ tw_w633 tw_kc436 hr13 (tw_le hfr rfl) (tw_le hlo rfl) hcs (Nat.le_of_ble_eq_true rfl) trivial ?_
          refine r_bd (fun r14 hr14 => ?_)
          refine tw_c_X9_measureHops X dX9_shortest_86 _ tw_w634  hr14 (tw_le hfr rfl) (tw_le hlo rfl) hcs (Nat.le_of_ble_eq_true rfl) trivial ?_
          refine r_pop X dX9_shortest_89 rfl ?_
          refine r_iinc X dX9_shortest_90 0 rfl (v := (1 : Int32)) (by decide) (by decide) (LL := fun v15 => [(2, .int v15), (0, .ref (tw_zB z + 435))]) (fun _ => rfl) (fun v15 => ?_)
          refine r_goto X dX9_shortest_93 (tgt := 68) (by decide) ?_
          exact hk10 (v15, r14.2)
      ·
        refine r_aload_n X dX9_shortest_47 rfl 2 rfl ?_
        refine tw_g9_3 (k := 435) (v := .ref (tw_zB z + 436)) X dX9_shortest_48 _ tw_w463 tw_kc435 rfl ?_
        refine r_iload_n X dX9_shortest_51 rfl 0 rfl ?_
        refine r_aload_n X dX9_shortest_52 rfl 1 rfl ?_
        refine r_iload_n X dX9_shortest_53 rfl 0 rfl ?_
        refine r_bd (fun r16 hr16 => ?_)
        refine tw_c_X0_at X dX9_shortest_54 _ tw_w627 tw_kc140 hr16 (tw_le hfr rfl) (tw_le hlo rfl) hcs (Nat.le_of_ble_eq_true rfl) trivial ?_
        refine r_bd (fun r17 hr17 => ?_)
        refine tw_c_X7_put X dX9_shortest_57 _ tw_w632 tw_kc436 hr17 (tw_le hfr rfl) (tw_le hlo rfl) hcs (Nat.le_of_ble_eq_true rfl) trivial ?_
        refine r_iinc X dX9_shortest_60 0 rfl (v := (1 : Int32)) (by decide) (by decide) (LL := fun v18 => [(2, .int v18), (1, .ref (tw_zB z + 140)), (0, .ref (tw_zB z + 435))]) (fun _ => rfl) (fun v18 => ?_)
        refine r_goto X dX9_shortest_63 (tgt := 39) (by decide) ?_
        exact hk7 (v18, r17)
    ·
      refine r_bipush X dX9_shortest_34 (v := (-2 : Int32)) (by decide) ?_
      exact r_iret X dX9_shortest_36 hret hQ rfl
  ·
    refine r_iconst X dX9_shortest_23 (v := (0 : Int32)) (by decide) ?_
    exact r_iret X dX9_shortest_24 hret hQ rfl
theorem tw_c_X9_shortest {ρ : Type} {z : tw_Z} {cc : ByteArray} {own : String} {nL pc : Nat} {σ : tw_Sg} {L : List (Nat × Value)} {st : List Value} {ix : Nat} {n : Nat}  (X : tw_X z cc own nL) (d : decode cc pc = .ok (.invokevirtual ix, 3)) (i : Nat) (hi : lw_tbl[i]? = some (.methodLink own ix yX9_shortest))  {res : ρ} {E : Option ρ} {r : Int32 × tw_Sg} (h : tw_P_X9_shortest n σ = some r) (h1 : 6 ≤ (tw_zR z).frames) (h2 : 144 ≤ (tw_zR z).locals) (hcs : tw_zcells z ≤ (tw_zR z).cells ∧ tw_zslots z ≤ (tw_zR z).slots) (hst : (st.map fun v => v.category).sum ≤ 8) (_ : True) (kk : tw_Rf z res E r.2 (pc + 3) L (.int r.1 :: st)) : tw_Rf z res E σ pc L (.ref (tw_zB z + 435) :: st) := r_callV (As := []) X d (tw_m_X9_shortest  h) tw_y_X9_shortest tw_v_X9_shortest i hi rfl (tw_kd_lt tw_kc435 (by decide)) (tw_E9 tw_kc435) rfl ⟨rfl, rfl, h1, h2⟩ hcs hst rfl kk
def tw_P_X10_twist (n : Nat) (x0 : Int32) (σ : tw_Sg) : Option (tw_Sg) :=
tw_bd (tw_P_X7_get 8 x0 σ) (fun r1 =>
tw_lt r1 (fun (v2 : Int32) =>
tw_bd (tw_P_X7_get 10 x0 σ) (fun r3 =>
tw_lt r3 (fun (v4 : Int32) =>
tw_lt v2 (fun (v5 : Int32) =>
tw_lp (fun (k7 : (Int32 × tw_Sg) → Option (tw_Sg)) (a6 : Int32 × tw_Sg) =>
tw_jn (fun (a8 : Unit) =>
some a6.2) (fun (j9 : (Unit) → Option (tw_Sg)) =>
if v4 < a6.1 then (j9 ())
else (if (704 : Int32) ≤ a6.1 then (j9 ())
else (tw_bd (tw_P_X11_isBetween v2 v4 a6.1 a6.2) (fun r10 =>
tw_jn (fun (a11 : tw_Sg) =>
tw_lt (a6.1 + (1 : Int32)) (fun (v13 : Int32) =>
k7 (v13, a11))) (fun (j12 : (tw_Sg) → Option (tw_Sg)) =>
if r10 = 0 then (j12 a6.2)
else (tw_bd (tw_P_X7_get 34 a6.1 a6.2) (fun r14 =>
tw_bd (tw_P_X7_get 12 x0 a6.2) (fun r15 =>
tw_bd (tw_P_X7_put 34 a6.1 (r14 + r15) a6.2) (fun r16 =>
j12 r16)))))))))) n (v5, σ))))))
theorem tw_y_X10_twist : tw_My yX10_twist cX10_twist 5 none 1 := ⟨List.mem_of_getElem? tw_w709, List.mem_of_getElem? tw_w94, by decide +kernel, by decide +kernel, by decide +kernel⟩
theorem tw_v_X10_twist : tw_Mv yX10_twist "TreasureWalk$Trails" := ⟨List.mem_of_getElem? tw_w708, List.mem_of_getElem? tw_w5, rfl⟩
set_option maxRecDepth 100000 in
set_option maxHeartbeats 4000000 in
theorem tw_m_X10_twist {l : Launch} {B : Nat} {D : va_G} {C : Nat → ClassId} {S : Nat → Nat} {n : Nat} {x0 : Int32} {σ : tw_Sg}  {r : tw_Sg} (h : tw_P_X10_twist n x0 σ = some r) : tw_Met l B D C S yX10_twist cX10_twist 5 none ({ frames := 2, cells := 0, slots := 0, locals := 42 } : Room) [.ref (B + 33), .int x0] σ (none) r := by
  refine tw_metOfP (tw_P_X10_twist n x0 σ) r h (fun r => (none, r)) (by decide +kernel) (Nat.le_of_ble_eq_true rfl) ⟨rfl, rfl⟩ ?_
  intro z el eB eD eC eS hfr hlo hcs X hret hQ
  subst el eB eD eC eS
  have X : tw_X z cX10_twist "TreasureWalk$Trails" 5 := X
  show tw_Rf z r _ σ 0 [(0, .ref (tw_zB z + 33)), (1, .int x0)] []
  unfold tw_P_X10_twist
  refine r_aload_n X dX10_twist_0 rfl 0 rfl ?_
  refine tw_g10_0 (k := 33) (v := .ref (tw_zB z + 1)) X dX10_twist_1 _ tw_w335 tw_kc33 rfl ?_
  refine tw_g2_6N (k := 1) (v := .ref (tw_zB z + 8)) X dX10_twist_4 _ tw_w231 tw_kc1 rfl ?_
  refine r_iload_n X dX10_twist_7 rfl 1 rfl ?_
  refine r_bd (fun r1 hr1 => ?_)
  refine tw_c_X7_get X dX10_twist_8 _ tw_w555 tw_kc8 hr1 (tw_le hfr rfl) (tw_le hlo rfl) hcs (Nat.le_of_ble_eq_true rfl) trivial ?_
  refine r_istore_n X dX10_twist_11 rfl (by decide) (LL := fun v2 => [(2, .int v2), (0, .ref (tw_zB z + 33)), (1, .int x0)]) (fun _ => rfl) (fun v2 => ?_)
  refine r_aload_n X dX10_twist_12 rfl 1 rfl ?_
  refine tw_g10_0 (k := 33) (v := .ref (tw_zB z + 1)) X dX10_twist_13 _ tw_w335 tw_kc33 rfl ?_
  refine tw_g2_7N (k := 1) (v := .ref (tw_zB z + 10)) X dX10_twist_16 _ tw_w233 tw_kc1 rfl ?_
  refine r_iload_n X dX10_twist_19 rfl 2 rfl ?_
  refine r_bd (fun r3 hr3 => ?_)
  refine tw_c_X7_get X dX10_twist_20 _ tw_w555 tw_kc10 hr3 (tw_le hfr rfl) (tw_le hlo rfl) hcs (Nat.le_of_ble_eq_true rfl) trivial ?_
  refine r_istore_n X dX10_twist_23 rfl (by decide) (LL := fun v4 => [(3, .int v4), (2, .int v2), (0, .ref (tw_zB z + 33)), (1, .int x0)]) (fun _ => rfl) (fun v4 => ?_)
  refine r_iload_n X dX10_twist_24 rfl 1 rfl ?_
  refine r_istore X dX10_twist_25 (by decide) (LL := fun v5 => [(4, .int v5), (3, .int v4), (2, .int v2), (0, .ref (tw_zB z + 33)), (1, .int x0)]) (fun _ => rfl) (fun v5 => ?_)
  refine r_lp (α := Int32 × tw_Sg) (σJ := fun a6 => a6.2) (pcJ := 27) (LJ := fun a6 => [(4, .int a6.1), (3, .int v4), (2, .int v2), (0, .ref (tw_zB z + 33)), (1, .int x0)]) (stJ := fun a6 => []) (fun k7 hk7 a6 => ?_) n (v5, σ)
  refine r_iload X dX10_twist_27 0 rfl ?_
  refine r_iload_n X dX10_twist_29 rfl 1 rfl ?_
  refine r_jn (α := Unit) (σJ := fun a8 => a6.2) (pcJ := 87) (LJ := fun a8 => []) (stJ := fun a8 => []) (ok := fun a8 => True) (fun a8 hoka8 => ?_) (fun j9 hj9 => ?_)
  ·
    exact r_vret X dX10_twist_87 hret hQ rfl
  refine r_icmp_gt X dX10_twist_30 (tgt := 87) (by decide) ?_ ?_
  ·
    exact tw_Rf.sub [] rfl (hj9 () trivial)
  ·
    refine r_iload X dX10_twist_33 0 rfl ?_
    refine r_sipush X dX10_twist_35 (v := (704 : Int32)) (by decide) ?_
    refine r_icmp_ge X dX10_twist_38 (tgt := 87) (by decide) ?_ ?_
    ·
      exact tw_Rf.sub [] rfl (hj9 () trivial)
    ·
      refine r_iload_n X dX10_twist_41 rfl 2 rfl ?_
      refine r_iload_n X dX10_twist_42 rfl 1 rfl ?_
      refine r_iload X dX10_twist_43 0 rfl ?_
      refine r_bd (fun r10 hr10 => ?_)
      refine tw_c_X11_isBetweenn X dX10_twist_45 _ tw_w710  hr10 (tw_le hfr rfl) (tw_le hlo rfl) hcs (Nat.le_of_ble_eq_true rfl) trivial ?_
      refine r_jn (α := tw_Sg) (σJ := fun a11 => a11) (pcJ := 81) (LJ := fun a11 => [(4, .int a6.1), (3, .int v4), (2, .int v2), (0, .ref (tw_zB z + 33)), (1, .int x0)]) (stJ := fun a11 => []) (ok := fun a11 => True) (fun a11 hoka11 => ?_) (fun j12 hj12 => ?_)
      ·
        refine r_iinc X dX10_twist_81 0 rfl (v := (1 : Int32)) (by decide) (by decide) (LL := fun v13 => [(4, .int v13), (3, .int v4), (2, .int v2), (0, .ref (tw_zB z + 33)), (1, .int x0)]) (fun _ => rfl) (fun v13 => ?_)
        refine r_goto X dX10_twist_84 (tgt := 27) (by decide) ?_
        exact hk7 (v13, a11)
      refine r_if_eq X dX10_twist_48 (tgt := 81) (by decide) ?_ ?_
      ·
        exact hj12 a6.2 trivial
      ·
        refine r_aload_n X dX10_twist_51 rfl 3 rfl ?_
        refine tw_g10_1 (k := 33) (v := .ref (tw_zB z + 34)) X dX10_twist_52 _ tw_w336 tw_kc33 rfl ?_
        refine r_iload X dX10_twist_55 0 rfl ?_
        refine r_aload_n X dX10_twist_57 rfl 3 rfl ?_
        refine tw_g10_1 (k := 33) (v := .ref (tw_zB z + 34)) X dX10_twist_58 _ tw_w336 tw_kc33 rfl ?_
        refine r_iload X dX10_twist_61 0 rfl ?_
        refine r_bd (fun r14 hr14 => ?_)
        refine tw_c_X7_get X dX10_twist_63 _ tw_w555 tw_kc34 hr14 (tw_le hfr rfl) (tw_le hlo rfl) hcs (Nat.le_of_ble_eq_true rfl) trivial ?_
        refine r_aload_n X dX10_twist_66 rfl 3 rfl ?_
        refine tw_g10_0 (k := 33) (v := .ref (tw_zB z + 1)) X dX10_twist_67 _ tw_w335 tw_kc33 rfl ?_
        refine tw_g2_8N (k := 1) (v := .ref (tw_zB z + 12)) X dX10_twist_70 _ tw_w235 tw_kc1 rfl ?_
        refine r_iload_n X dX10_twist_73 rfl 4 rfl ?_
        refine r_bd (fun r15 hr15 => ?_)
        refine tw_c_X7_get X dX10_twist_74 _ tw_w555 tw_kc12 hr15 (tw_le hfr rfl) (tw_le hlo rfl) hcs (Nat.le_of_ble_eq_true rfl) trivial ?_
        refine r_iadd X dX10_twist_77 ?_
        refine r_bd (fun r16 hr16 => ?_)
        refine tw_c_X7_put X dX10_twist_78 _ tw_w715 tw_kc34 hr16 (tw_le hfr rfl) (tw_le hlo rfl) hcs (Nat.le_of_ble_eq_true rfl) trivial ?_
        exact hj12 r16 trivial
theorem tw_c_X10_twist {ρ : Type} {z : tw_Z} {cc : ByteArray} {own : String} {nL pc : Nat} {σ : tw_Sg} {L : List (Nat × Value)} {st : List Value} {ix : Nat} {n : Nat} {x0 : Int32} (X : tw_X z cc own nL) (d : decode cc pc = .ok (.invokevirtual ix, 3)) (i : Nat) (hi : lw_tbl[i]? = some (.methodLink own ix yX10_twist))  {res : ρ} {E : Option ρ} {r : tw_Sg} (h : tw_P_X10_twist n x0 σ = some r) (h1 : 3 ≤ (tw_zR z).frames) (h2 : 66 ≤ (tw_zR z).locals) (hcs : tw_zcells z ≤ (tw_zR z).cells ∧ tw_zslots z ≤ (tw_zR z).slots) (hst : (st.map fun v => v.category).sum ≤ 8) (_ : True) (kk : tw_Rf z res E r (pc + 3) L (st)) : tw_Rf z res E σ pc L (.int x0 :: .ref (tw_zB z + 33) :: st) := r_callV (As := [.int x0]) X d (tw_m_X10_twist  h) tw_y_X10_twist tw_v_X10_twist i hi rfl (tw_kd_lt tw_kc33 (by decide)) (tw_E10 tw_kc33) rfl ⟨rfl, rfl, h1, h2⟩ hcs hst rfl kk
def tw_P_X10_layer (x0 : Int32) (x1 : Int32) (σ : tw_Sg) : Option (Nat) :=
tw_bd (tw_P_X5_at 36 ((x0 * (9 : Int32)) + x1) σ) (fun r1 =>
tw_ck (decide (tw_kd r1 = 0)) (
some r1))
theorem tw_y_X10_layer : tw_My yX10_layer cX10_layer 3 (some (.object "TreasureWalk$Cells")) 2 := ⟨List.mem_of_getElem? tw_w729, List.mem_of_getElem? tw_w94, by decide +kernel, by decide +kernel, by decide +kernel⟩
theorem tw_v_X10_layer : tw_Mv yX10_layer "TreasureWalk$Trails" := ⟨List.mem_of_getElem? tw_w727, List.mem_of_getElem? tw_w728, rfl⟩
set_option maxRecDepth 100000 in
set_option maxHeartbeats 4000000 in
theorem tw_m_X10_layer {l : Launch} {B : Nat} {D : va_G} {C : Nat → ClassId} {S : Nat → Nat} {x0 : Int32} {x1 : Int32} {σ : tw_Sg}  {r : Nat} (h : tw_P_X10_layer x0 x1 σ = some r) : tw_Met l B D C S yX10_layer cX10_layer 3 (some (.object "TreasureWalk$Cells")) ({ frames := 1, cells := 0, slots := 0, locals := 22 } : Room) [.ref (B + 33), .int x0, .int x1] σ (some (.ref (B + r))) σ := by
  refine tw_metOfP (tw_P_X10_layer x0 x1 σ) r h (fun r => (some (.ref (B + r)), σ)) (by decide +kernel) (Nat.le_of_ble_eq_true rfl) ⟨rfl, rfl⟩ ?_
  intro z el eB eD eC eS hfr hlo hcs X hret hQ
  subst el eB eD eC eS
  have X : tw_X z cX10_layer "TreasureWalk$Trails" 3 := X
  show tw_Rf z r _ σ 0 [(0, .ref (tw_zB z + 33)), (1, .int x0), (2, .int x1)] []
  unfold tw_P_X10_layer
  refine r_aload_n X dX10_layer_0 rfl 0 rfl ?_
  refine tw_g10_2 (k := 33) (v := .ref (tw_zB z + 36)) X dX10_layer_1 _ tw_w337 tw_kc33 rfl ?_
  refine r_iload_n X dX10_layer_4 rfl 1 rfl ?_
  refine r_bipush X dX10_layer_5 (v := (9 : Int32)) (by decide) ?_
  refine r_imul X dX10_layer_7 ?_
  refine r_iload_n X dX10_layer_8 rfl 2 rfl ?_
  refine r_iadd X dX10_layer_9 ?_
  refine r_bd (fun r1 hr1 => ?_)
  refine tw_c_X5_at X dX10_layer_10 _ tw_w556 tw_kc36 hr1 (tw_le hfr rfl) (tw_le hlo rfl) hcs (Nat.le_of_ble_eq_true rfl) trivial ?_
  refine r_ck (fun h2 => ?_)
  exact r_aret X dX10_layer_13 hret hQ rfl
theorem tw_c_X10_layer {ρ : Type} {z : tw_Z} {cc : ByteArray} {own : String} {nL pc : Nat} {σ : tw_Sg} {L : List (Nat × Value)} {st : List Value} {ix : Nat} {x0 : Int32} {x1 : Int32} (X : tw_X z cc own nL) (d : decode cc pc = .ok (.invokevirtual ix, 3)) (i : Nat) (hi : lw_tbl[i]? = some (.methodLink own ix yX10_layer))  {res : ρ} {E : Option ρ} {r : Nat} (h : tw_P_X10_layer x0 x1 σ = some r) (h1 : 2 ≤ (tw_zR z).frames) (h2 : 44 ≤ (tw_zR z).locals) (hcs : tw_zcells z ≤ (tw_zR z).cells ∧ tw_zslots z ≤ (tw_zR z).slots) (hst : (st.map fun v => v.category).sum ≤ 8) (_ : True) (kk : tw_Rf z res E σ (pc + 3) L (.ref (tw_zB z + r) :: st)) : tw_Rf z res E σ pc L (.int x1 :: .int x0 :: .ref (tw_zB z + 33) :: st) := r_callV (As := [.int x0, .int x1]) X d (tw_m_X10_layer  h) tw_y_X10_layer tw_v_X10_layer i hi rfl (tw_kd_lt tw_kc33 (by decide)) (tw_E10 tw_kc33) rfl ⟨rfl, rfl, h1, h2⟩ hcs hst rfl kk
def tw_P_X10_startSpot (x0 : Int32) (x1 : Int32) (σ : tw_Sg) : Option (Int32) :=
tw_bd (tw_P_X1_startMark 14 x0 x1 σ) (fun r1 =>
tw_bd (tw_P_X7_get 6 r1 σ) (fun r2 =>
some r2))
theorem tw_y_X10_startSpot : tw_My yX10_startSpot cX10_startSpot 3 (some .int) 2 := ⟨List.mem_of_getElem? tw_w733, List.mem_of_getElem? tw_w94, by decide +kernel, by decide +kernel, by decide +kernel⟩
theorem tw_v_X10_startSpot : tw_Mv yX10_startSpot "TreasureWalk$Trails" := ⟨List.mem_of_getElem? tw_w732, List.mem_of_getElem? tw_w7, rfl⟩
set_option maxRecDepth 100000 in
set_option maxHeartbeats 4000000 in
theorem tw_m_X10_startSpot {l : Launch} {B : Nat} {D : va_G} {C : Nat → ClassId} {S : Nat → Nat} {x0 : Int32} {x1 : Int32} {σ : tw_Sg}  {r : Int32} (h : tw_P_X10_startSpot x0 x1 σ = some r) : tw_Met l B D C S yX10_startSpot cX10_startSpot 3 (some .int) ({ frames := 2, cells := 0, slots := 0, locals := 43 } : Room) [.ref (B + 33), .int x0, .int x1] σ (some (.int r)) σ := by
  refine tw_metOfP (tw_P_X10_startSpot x0 x1 σ) r h (fun r => (some (.int r), σ)) (by decide +kernel) (Nat.le_of_ble_eq_true rfl) ⟨rfl, rfl⟩ ?_
  intro z el eB eD eC eS hfr hlo hcs X hret hQ
  subst el eB eD eC eS
  have X : tw_X z cX10_startSpot "TreasureWalk$Trails" 3 := X
  show tw_Rf z r _ σ 0 [(0, .ref (tw_zB z + 33)), (1, .int x0), (2, .int x1)] []
  unfold tw_P_X10_startSpot
  refine r_aload_n X dX10_startSpot_0 rfl 0 rfl ?_
  refine tw_g10_0 (k := 33) (v := .ref (tw_zB z + 1)) X dX10_startSpot_1 _ tw_w335 tw_kc33 rfl ?_
  refine tw_g2_4N (k := 1) (v := .ref (tw_zB z + 6)) X dX10_startSpot_4 _ tw_w225 tw_kc1 rfl ?_
  refine r_aload_n X dX10_startSpot_7 rfl 0 rfl ?_
  refine tw_g10_0 (k := 33) (v := .ref (tw_zB z + 1)) X dX10_startSpot_8 _ tw_w335 tw_kc33 rfl ?_
  refine tw_g2_9N (k := 1) (v := .ref (tw_zB z + 14)) X dX10_startSpot_11 _ tw_w239 tw_kc1 rfl ?_
  refine r_iload_n X dX10_startSpot_14 rfl 1 rfl ?_
  refine r_iload_n X dX10_startSpot_15 rfl 2 rfl ?_
  refine r_bd (fun r1 hr1 => ?_)
  refine tw_c_X1_startMark X dX10_startSpot_16 _ tw_w734 tw_kc14 hr1 (tw_le hfr rfl) (tw_le hlo rfl) hcs (Nat.le_of_ble_eq_true rfl) trivial ?_
  refine r_bd (fun r2 hr2 => ?_)
  refine tw_c_X7_get X dX10_startSpot_19 _ tw_w555 tw_kc6 hr2 (tw_le hfr rfl) (tw_le hlo rfl) hcs (Nat.le_of_ble_eq_true rfl) trivial ?_
  exact r_iret X dX10_startSpot_22 hret hQ rfl
theorem tw_c_X10_startSpot {ρ : Type} {z : tw_Z} {cc : ByteArray} {own : String} {nL pc : Nat} {σ : tw_Sg} {L : List (Nat × Value)} {st : List Value} {ix : Nat} {x0 : Int32} {x1 : Int32} (X : tw_X z cc own nL) (d : decode cc pc = .ok (.invokevirtual ix, 3)) (i : Nat) (hi : lw_tbl[i]? = some (.methodLink own ix yX10_startSpot))  {res : ρ} {E : Option ρ} {r : Int32} (h : tw_P_X10_startSpot x0 x1 σ = some r) (h1 : 3 ≤ (tw_zR z).frames) (h2 : 65 ≤ (tw_zR z).locals) (hcs : tw_zcells z ≤ (tw_zR z).cells ∧ tw_zslots z ≤ (tw_zR z).slots) (hst : (st.map fun v => v.category).sum ≤ 8) (_ : True) (kk : tw_Rf z res E σ (pc + 3) L (.int r :: st)) : tw_Rf z res E σ pc L (.int x1 :: .int x0 :: .ref (tw_zB z + 33) :: st) := r_callV (As := [.int x0, .int x1]) X d (tw_m_X10_startSpot  h) tw_y_X10_startSpot tw_v_X10_startSpot i hi rfl (tw_kd_lt tw_kc33 (by decide)) (tw_E10 tw_kc33) rfl ⟨rfl, rfl, h1, h2⟩ hcs hst rfl kk
def tw_P_X10_step (x0 : Int32) (x1 : Int32) (σ : tw_Sg) : Option (Int32) :=
tw_bd (tw_P_X7_get 34 x0 σ) (fun r1 =>
tw_bd (tw_P_X11_neighbour x0 (x1 + r1) σ) (fun r2 =>
tw_lt r2 (fun (v3 : Int32) =>
tw_bd (tw_P_X0_has 2 v3 σ) (fun r4 =>
tw_jn (fun (a5 : Int32) =>
some a5) (fun (j6 : (Int32) → Option (Int32)) =>
if r4 = 0 then (j6 (0 : Int32))
else (j6 v3))))))
theorem tw_y_X10_step : tw_My yX10_step cX10_step 4 (some .int) 2 := ⟨List.mem_of_getElem? tw_w751, List.mem_of_getElem? tw_w94, by decide +kernel, by decide +kernel, by decide +kernel⟩
theorem tw_v_X10_step : tw_Mv yX10_step "TreasureWalk$Trails" := ⟨List.mem_of_getElem? tw_w749, List.mem_of_getElem? tw_w750, rfl⟩
set_option maxRecDepth 100000 in
set_option maxHeartbeats 4000000 in
theorem tw_m_X10_step {l : Launch} {B : Nat} {D : va_G} {C : Nat → ClassId} {S : Nat → Nat} {x0 : Int32} {x1 : Int32} {σ : tw_Sg}  {r : Int32} (h : tw_P_X10_step x0 x1 σ = some r) : tw_Met l B D C S yX10_step cX10_step 4 (some .int) ({ frames := 1, cells := 0, slots := 0, locals := 22 } : Room) [.ref (B + 33), .int x0, .int x1] σ (some (.int r)) σ := by
  refine tw_metOfP (tw_P_X10_step x0 x1 σ) r h (fun r => (some (.int r), σ)) (by decide +kernel) (Nat.le_of_ble_eq_true rfl) ⟨rfl, rfl⟩ ?_
  intro z el eB eD eC eS hfr hlo hcs X hret hQ
  subst el eB eD eC eS
  have X : tw_X z cX10_step "TreasureWalk$Trails" 4 := X
  show tw_Rf z r _ σ 0 [(0, .ref (tw_zB z + 33)), (1, .int x0), (2, .int x1)] []
  unfold tw_P_X10_step
  refine r_iload_n X dX10_step_0 rfl 1 rfl ?_
  refine r_iload_n X dX10_step_1 rfl 2 rfl ?_
  refine r_aload_n X dX10_step_2 rfl 0 rfl ?_
  refine tw_g10_1 (k := 33) (v := .ref (tw_zB z + 34)) X dX10_step_3 _ tw_w336 tw_kc33 rfl ?_
  refine r_iload_n X dX10_step_6 rfl 1 rfl ?_
  refine r_bd (fun r1 hr1 => ?_)
  refine tw_c_X7_get X dX10_step_7 _ tw_w555 tw_kc34 hr1 (tw_le hfr rfl) (tw_le hlo rfl) hcs (Nat.le_of_ble_eq_true rfl) trivial ?_
  refine r_iadd X dX10_step_10 ?_
  refine r_bd (fun r2 hr2 => ?_)
  refine tw_c_X11_neighbourn X dX10_step_11 _ tw_w752  hr2 (tw_le hfr rfl) (tw_le hlo rfl) hcs (Nat.le_of_ble_eq_true rfl) trivial ?_
  refine r_istore_n X dX10_step_14 rfl (by decide) (LL := fun v3 => [(3, .int v3), (0, .ref (tw_zB z + 33)), (1, .int x0), (2, .int x1)]) (fun _ => rfl) (fun v3 => ?_)
  refine r_aload_n X dX10_step_15 rfl 1 rfl ?_
  refine tw_g10_0 (k := 33) (v := .ref (tw_zB z + 1)) X dX10_step_16 _ tw_w335 tw_kc33 rfl ?_
  refine tw_g2_2N (k := 1) (v := .ref (tw_zB z + 2)) X dX10_step_19 _ tw_w218 tw_kc1 rfl ?_
  refine r_iload_n X dX10_step_22 rfl 0 rfl ?_
  refine r_bd (fun r4 hr4 => ?_)
  refine tw_c_X0_has X dX10_step_23 _ tw_w739 tw_kc2 hr4 (tw_le hfr rfl) (tw_le hlo rfl) hcs (Nat.le_of_ble_eq_true rfl) trivial ?_
  refine r_jn (α := Int32) (σJ := fun a5 => σ) (pcJ := 34) (LJ := fun a5 => []) (stJ := fun a5 => [.int a5]) (ok := fun a5 => True) (fun a5 hoka5 => ?_) (fun j6 hj6 => ?_)
  ·
    exact r_iret X dX10_step_34 hret hQ rfl
  refine r_if_eq X dX10_step_26 (tgt := 33) (by decide) ?_ ?_
  ·
    refine r_iconst X dX10_step_33 (v := (0 : Int32)) (by decide) ?_
    exact tw_Rf.sub [] rfl (hj6 (0 : Int32) trivial)
  ·
    refine r_iload_n X dX10_step_29 rfl 0 rfl ?_
    refine r_goto X dX10_step_30 (tgt := 34) (by decide) ?_
    exact tw_Rf.sub [] rfl (hj6 v3 trivial)
theorem tw_c_X10_step {ρ : Type} {z : tw_Z} {cc : ByteArray} {own : String} {nL pc : Nat} {σ : tw_Sg} {L : List (Nat × Value)} {st : List Value} {ix : Nat} {x0 : Int32} {x1 : Int32} (X : tw_X z cc own nL) (d : decode cc pc = .ok (.invokevirtual ix, 3)) (i : Nat) (hi : lw_tbl[i]? = some (.methodLink own ix yX10_step))  {res : ρ} {E : Option ρ} {r : Int32} (h : tw_P_X10_step x0 x1 σ = some r) (h1 : 2 ≤ (tw_zR z).frames) (h2 : 45 ≤ (tw_zR z).locals) (hcs : tw_zcells z ≤ (tw_zR z).cells ∧ tw_zslots z ≤ (tw_zR z).slots) (hst : (st.map fun v => v.category).sum ≤ 8) (_ : True) (kk : tw_Rf z res E σ (pc + 3) L (.int r :: st)) : tw_Rf z res E σ pc L (.int x1 :: .int x0 :: .ref (tw_zB z + 33) :: st) := r_callV (As := [.int x0, .int x1]) X d (tw_m_X10_step  h) tw_y_X10_step tw_v_X10_step i hi rfl (tw_kd_lt tw_kc33 (by decide)) (tw_E10 tw_kc33) rfl ⟨rfl, rfl, h1, h2⟩ hcs hst rfl kk
