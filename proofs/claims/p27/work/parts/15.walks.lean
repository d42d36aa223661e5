def tw_P_X10_firstStart (n : Nat) (x0 : Int32) (σ : tw_Sg) : Option (Int32) :=
tw_lt (0 : Int32) (fun (v1 : Int32) =>
tw_lp (fun (k3 : (Int32) → Option (Int32)) (a2 : Int32) =>
tw_bd (tw_P_X7_get 17 x0 σ) (fun r4 =>
if r4 ≤ a2 then (some (0 : Int32))
else (tw_bd (tw_P_X5_at 112 (0 : Int32) σ) (fun r5 =>
tw_ck (decide (tw_kd r5 = 0)) (
tw_bd (tw_P_X10_startSpot x0 a2 σ) (fun r7 =>
tw_bd (tw_P_X0_has r5 r7 σ) (fun r8 =>
if r8 = 0 then (tw_lt (a2 + (1 : Int32)) (fun (v9 : Int32) =>
k3 v9))
else (tw_bd (tw_P_X10_startSpot x0 a2 σ) (fun r10 =>
some r10))))))))) n v1)
theorem tw_y_X10_firstStart : tw_My yX10_firstStart cX10_firstStart 3 (some .int) 1 := ⟨List.mem_of_getElem? tw_w1121, List.mem_of_getElem? tw_w42, by decide +kernel, by decide +kernel, by decide +kernel⟩
theorem tw_v_X10_firstStart : tw_Mv yX10_firstStart "TreasureWalk$Trails" := ⟨List.mem_of_getElem? tw_w1120, List.mem_of_getElem? tw_w32, rfl⟩
set_option maxRecDepth 100000 in
set_option maxHeartbeats 4000000 in
theorem tw_m_X10_firstStart {l : Launch} {B : Nat} {D : tw_G} {C : Nat → ClassId} {S : Nat → Nat} {n : Nat} {x0 : Int32} {σ : tw_Sg}  {r : Int32} (h : tw_P_X10_firstStart n x0 σ = some r) : tw_Met l B D C S yX10_firstStart cX10_firstStart 3 (some .int) ({ frames := 3, cells := 0, slots := 0, locals := 65 } : Room) [.ref (B + 33), .int x0] σ (some (.int r)) σ := by
  refine tw_metOfP (tw_P_X10_firstStart n x0 σ) r h (fun r => (some (.int r), σ)) (by decide +kernel) (Nat.le_of_ble_eq_true rfl) ⟨rfl, rfl⟩ ?_
  intro z el eB eD eC eS hfr hlo hcs X hret hQ
  subst el eB eD eC eS
  have X : tw_X z cX10_firstStart "TreasureWalk$Trails" 3 := X
  show tw_Rf z r _ σ 0 [(0, .ref (tw_zB z + 33)), (1, .int x0)] []
  unfold tw_P_X10_firstStart
  refine r_iconst X dX10_firstStart_0 (v := (0 : Int32)) (by decide) ?_
  refine r_istore_n X dX10_firstStart_1 rfl (by decide) (LL := fun v1 => [(2, .int v1), (0, .ref (tw_zB z + 33)), (1, .int x0)]) (fun _ => rfl) (fun v1 => ?_)
  refine r_lp (α := Int32) (σJ := fun a2 => σ) (pcJ := 2) (LJ := fun a2 => [(2, .int a2), (0, .ref (tw_zB z + 33)), (1, .int x0)]) (stJ := fun a2 => []) (fun k3 hk3 a2 => ?_) n v1
  refine r_iload_n X dX10_firstStart_2 rfl 0 rfl ?_
  refine r_aload_n X dX10_firstStart_3 rfl 1 rfl ?_
  refine tw_g10_0 (k := 33) (v := .ref (tw_zB z + 1)) X dX10_firstStart_4 _ tw_w288 tw_kc33 rfl ?_
  refine tw_g2_9N (k := 1) (v := .ref (tw_zB z + 14)) X dX10_firstStart_7 _ tw_w194 tw_kc1 rfl ?_
  refine tw_g1_2N (k := 14) (v := .ref (tw_zB z + 17)) X dX10_firstStart_10 _ tw_w122 tw_kc14 rfl ?_
  refine r_iload_n X dX10_firstStart_13 rfl 2 rfl ?_
  refine r_bd (fun r4 hr4 => ?_)
  refine tw_c_X7_get X dX10_firstStart_14 _ tw_w517 tw_kc17 hr4 (tw_le hfr rfl) (tw_le hlo rfl) hcs (Nat.le_of_ble_eq_true rfl) trivial ?_
  refine r_icmp_ge X dX10_firstStart_17 (tgt := 53) (by decide) ?_ ?_
  ·
    refine r_iconst X dX10_firstStart_53 (v := (0 : Int32)) (by decide) ?_
    exact r_iret X dX10_firstStart_54 hret hQ rfl
  ·
    refine r_aload_n X dX10_firstStart_20 rfl 1 rfl ?_
    refine tw_g10_3 (k := 33) (v := .ref (tw_zB z + 112)) X dX10_firstStart_21 _ tw_w291 tw_kc33 rfl ?_
    refine r_iconst X dX10_firstStart_24 (v := (0 : Int32)) (by decide) ?_
    refine r_bd (fun r5 hr5 => ?_)
    refine tw_c_X5_at X dX10_firstStart_25 _ tw_w551 tw_kc112 hr5 (tw_le hfr rfl) (tw_le hlo rfl) hcs (Nat.le_of_ble_eq_true rfl) trivial ?_
    refine r_ck (fun h6 => ?_)
    refine r_aload_n X dX10_firstStart_28 rfl 1 rfl ?_
    refine r_iload_n X dX10_firstStart_29 rfl 2 rfl ?_
    refine r_iload_n X dX10_firstStart_30 rfl 0 rfl ?_
    refine r_bd (fun r7 hr7 => ?_)
    refine tw_c_X10_startSpot X dX10_firstStart_31 _ tw_w552  hr7 (tw_le hfr rfl) (tw_le hlo rfl) hcs (Nat.le_of_ble_eq_true rfl) trivial ?_
    refine r_bd (fun r8 hr8 => ?_)
    refine tw_c_X0_has X dX10_firstStart_34 _ tw_w562 (of_decide_eq_true h6) hr8 (tw_le hfr rfl) (tw_le hlo rfl) hcs (Nat.le_of_ble_eq_true rfl) trivial ?_
    refine r_if_eq X dX10_firstStart_37 (tgt := 47) (by decide) ?_ ?_
    ·
      refine r_iinc X dX10_firstStart_47 0 rfl (v := (1 : Int32)) (by decide) (by decide) (LL := fun v9 => [(2, .int v9), (0, .ref (tw_zB z + 33)), (1, .int x0)]) (fun _ => rfl) (fun v9 => ?_)
      refine r_goto X dX10_firstStart_50 (tgt := 2) (by decide) ?_
      exact hk3 v9
    ·
      refine r_aload_n X dX10_firstStart_40 rfl 1 rfl ?_
      refine r_iload_n X dX10_firstStart_41 rfl 2 rfl ?_
      refine r_iload_n X dX10_firstStart_42 rfl 0 rfl ?_
      refine r_bd (fun r10 hr10 => ?_)
      refine tw_c_X10_startSpot X dX10_firstStart_43 _ tw_w552  hr10 (tw_le hfr rfl) (tw_le hlo rfl) hcs (Nat.le_of_ble_eq_true rfl) trivial ?_
      exact r_iret X dX10_firstStart_46 hret hQ rfl
theorem tw_c_X10_firstStart {ρ : Type} {z : tw_Z} {cc : ByteArray} {own : String} {nL pc : Nat} {σ : tw_Sg} {L : List (Nat × Value)} {st : List Value} {ix : Nat} {n : Nat} {x0 : Int32} (X : tw_X z cc own nL) (d : decode cc pc = .ok (.invokevirtual ix, 3)) (i : Nat) (hi : lw_tbl[i]? = some (.methodLink own ix yX10_firstStart))  {res : ρ} {E : Option ρ} {r : Int32} (h : tw_P_X10_firstStart n x0 σ = some r) (h1 : 4 ≤ (tw_zR z).frames) (h2 : 87 ≤ (tw_zR z).locals) (hcs : tw_zcells z ≤ (tw_zR z).cells ∧ tw_zslots z ≤ (tw_zR z).slots) (hst : (st.map fun v => v.category).sum ≤ 8) (_ : True) (kk : tw_Rf z res E σ (pc + 3) L (.int r :: st)) : tw_Rf z res E σ pc L (.int x0 :: .ref (tw_zB z + 33) :: st) := r_callV (As := [.int x0]) X d (tw_m_X10_firstStart  h) tw_y_X10_firstStart tw_v_X10_firstStart i hi rfl (tw_kd_lt tw_kc33 (by decide)) (tw_E10 tw_kc33) rfl ⟨rfl, rfl, h1, h2⟩ hcs hst rfl kk
def tw_P_X10_spotBehind (n : Nat) (x0 : Int32) (x1 : Int32) (x2 : Int32) (x3 : Int32) (σ : tw_Sg) : Option (Int32) :=
tw_bd (tw_P_X7_get 25 ((x0 * (8 : Int32)) + x1) σ) (fun r1 =>
tw_lt r1 (fun (v2 : Int32) =>
tw_lt x2 (fun (v3 : Int32) =>
tw_lt (0 : Int32) (fun (v4 : Int32) =>
tw_lp (fun (k6 : (Int32 × Int32) → Option (Int32)) (a5 : Int32 × Int32) =>
if x3 ≤ a5.2 then (some a5.1)
else (tw_bd (tw_P_X10_step a5.1 v2 σ) (fun r7 =>
tw_lt r7 (fun (v8 : Int32) =>
tw_lt (a5.2 + (1 : Int32)) (fun (v9 : Int32) =>
k6 (v8, v9)))))) n (v3, v4)))))
theorem tw_y_X10_spotBehind : tw_My yX10_spotBehind cX10_spotBehind 8 (some .int) 4 := ⟨List.mem_of_getElem? tw_w1125, List.mem_of_getElem? tw_w42, by decide +kernel, by decide +kernel, by decide +kernel⟩
theorem tw_v_X10_spotBehind : tw_Mv yX10_spotBehind "TreasureWalk$Trails" := ⟨List.mem_of_getElem? tw_w1124, List.mem_of_getElem? tw_w33, rfl⟩
set_option maxRecDepth 100000 in
set_option maxHeartbeats 4000000 in
theorem tw_m_X10_spotBehind {l : Launch} {B : Nat} {D : tw_G} {C : Nat → ClassId} {S : Nat → Nat} {n : Nat} {x0 : Int32} {x1 : Int32} {x2 : Int32} {x3 : Int32} {σ : tw_Sg}  {r : Int32} (h : tw_P_X10_spotBehind n x0 x1 x2 x3 σ = some r) : tw_Met l B D C S yX10_spotBehind cX10_spotBehind 8 (some .int) ({ frames := 2, cells := 0, slots := 0, locals := 45 } : Room) [.ref (B + 33), .int x0, .int x1, .int x2, .int x3] σ (some (.int r)) σ := by
  refine tw_metOfP (tw_P_X10_spotBehind n x0 x1 x2 x3 σ) r h (fun r => (some (.int r), σ)) (by decide +kernel) (Nat.le_of_ble_eq_true rfl) ⟨rfl, rfl⟩ ?_
  intro z el eB eD eC eS hfr hlo hcs X hret hQ
  subst el eB eD eC eS
  have X : tw_X z cX10_spotBehind "TreasureWalk$Trails" 8 := X
  show tw_Rf z r _ σ 0 [(0, .ref (tw_zB z + 33)), (1, .int x0), (2, .int x1), (3, .int x2), (4, .int x3)] []
  unfold tw_P_X10_spotBehind
  refine r_aload_n X dX10_spotBehind_0 rfl 0 rfl ?_
  refine tw_g10_0 (k := 33) (v := .ref (tw_zB z + 1)) X dX10_spotBehind_1 _ tw_w288 tw_kc33 rfl ?_
  refine tw_g2_9N (k := 1) (v := .ref (tw_zB z + 14)) X dX10_spotBehind_4 _ tw_w194 tw_kc1 rfl ?_
  refine tw_g1_6N (k := 14) (v := .ref (tw_zB z + 25)) X dX10_spotBehind_7 _ tw_w132 tw_kc14 rfl ?_
  refine r_iload_n X dX10_spotBehind_10 rfl 1 rfl ?_
  refine r_bipush X dX10_spotBehind_11 (v := (8 : Int32)) (by decide) ?_
  refine r_imul X dX10_spotBehind_13 ?_
  refine r_iload_n X dX10_spotBehind_14 rfl 2 rfl ?_
  refine r_iadd X dX10_spotBehind_15 ?_
  refine r_bd (fun r1 hr1 => ?_)
  refine tw_c_X7_get X dX10_spotBehind_16 _ tw_w517 tw_kc25 hr1 (tw_le hfr rfl) (tw_le hlo rfl) hcs (Nat.le_of_ble_eq_true rfl) trivial ?_
  refine r_istore X dX10_spotBehind_19 (by decide) (LL := fun v2 => [(5, .int v2), (0, .ref (tw_zB z + 33)), (1, .int x0), (2, .int x1), (3, .int x2), (4, .int x3)]) (fun _ => rfl) (fun v2 => ?_)
  refine r_iload_n X dX10_spotBehind_21 rfl 4 rfl ?_
  refine r_istore X dX10_spotBehind_22 (by decide) (LL := fun v3 => [(6, .int v3), (5, .int v2), (0, .ref (tw_zB z + 33)), (1, .int x0), (2, .int x1), (3, .int x2), (4, .int x3)]) (fun _ => rfl) (fun v3 => ?_)
  refine r_iconst X dX10_spotBehind_24 (v := (0 : Int32)) (by decide) ?_
  refine r_istore X dX10_spotBehind_25 (by decide) (LL := fun v4 => [(7, .int v4), (6, .int v3), (5, .int v2), (0, .ref (tw_zB z + 33)), (1, .int x0), (2, .int x1), (3, .int x2), (4, .int x3)]) (fun _ => rfl) (fun v4 => ?_)
  refine tw_Rf.sub [0, 1, 2, 3, 7] rfl ?_
  refine r_lp (α := Int32 × Int32) (σJ := fun a5 => σ) (pcJ := 27) (LJ := fun a5 => [(7, .int a5.2), (6, .int a5.1), (5, .int v2), (0, .ref (tw_zB z + 33)), (4, .int x3)]) (stJ := fun a5 => []) (fun k6 hk6 a5 => ?_) n (v3, v4)
  refine r_iload X dX10_spotBehind_27 0 rfl ?_
  refine r_iload X dX10_spotBehind_29 4 rfl ?_
  refine r_icmp_ge X dX10_spotBehind_31 (tgt := 50) (by decide) ?_ ?_
  ·
    refine r_iload X dX10_spotBehind_50 1 rfl ?_
    exact r_iret X dX10_spotBehind_52 hret hQ rfl
  ·
    refine r_aload_n X dX10_spotBehind_34 rfl 3 rfl ?_
    refine r_iload X dX10_spotBehind_35 1 rfl ?_
    refine r_iload X dX10_spotBehind_37 2 rfl ?_
    refine r_bd (fun r7 hr7 => ?_)
    refine tw_c_X10_step X dX10_spotBehind_39 _ tw_w571  hr7 (tw_le hfr rfl) (tw_le hlo rfl) hcs (Nat.le_of_ble_eq_true rfl) trivial ?_
    refine r_istore X dX10_spotBehind_42 (by decide) (LL := fun v8 => [(6, .int v8), (7, .int a5.2), (5, .int v2), (0, .ref (tw_zB z + 33)), (4, .int x3)]) (fun _ => rfl) (fun v8 => ?_)
    refine r_iinc X dX10_spotBehind_44 1 rfl (v := (1 : Int32)) (by decide) (by decide) (LL := fun v9 => [(7, .int v9), (6, .int v8), (5, .int v2), (0, .ref (tw_zB z + 33)), (4, .int x3)]) (fun _ => rfl) (fun v9 => ?_)
    refine r_goto X dX10_spotBehind_47 (tgt := 27) (by decide) ?_
    exact hk6 (v8, v9)
theorem tw_c_X10_spotBehind {ρ : Type} {z : tw_Z} {cc : ByteArray} {own : String} {nL pc : Nat} {σ : tw_Sg} {L : List (Nat × Value)} {st : List Value} {ix : Nat} {n : Nat} {x0 : Int32} {x1 : Int32} {x2 : Int32} {x3 : Int32} (X : tw_X z cc own nL) (d : decode cc pc = .ok (.invokevirtual ix, 3)) (i : Nat) (hi : lw_tbl[i]? = some (.methodLink own ix yX10_spotBehind))  {res : ρ} {E : Option ρ} {r : Int32} (h : tw_P_X10_spotBehind n x0 x1 x2 x3 σ = some r) (h1 : 3 ≤ (tw_zR z).frames) (h2 : 72 ≤ (tw_zR z).locals) (hcs : tw_zcells z ≤ (tw_zR z).cells ∧ tw_zslots z ≤ (tw_zR z).slots) (hst : (st.map fun v => v.category).sum ≤ 8) (_ : True) (kk : tw_Rf z res E σ (pc + 3) L (.int r :: st)) : tw_Rf z res E σ pc L (.int x3 :: .int x2 :: .int x1 :: .int x0 :: .ref (tw_zB z + 33) :: st) := r_callV (As := [.int x0, .int x1, .int x2, .int x3]) X d (tw_m_X10_spotBehind  h) tw_y_X10_spotBehind tw_v_X10_spotBehind i hi rfl (tw_kd_lt tw_kc33 (by decide)) (tw_E10 tw_kc33) rfl ⟨rfl, rfl, h1, h2⟩ hcs hst rfl kk
def tw_P_X10_firstWalkPaces (n : Nat) (x0 : Int32) (x1 : Int32) (x2 : Int32) (σ : tw_Sg) : Option (Int32 × tw_Sg) :=
tw_bd (tw_P_X10_findWays n x0 x1 σ) (fun r1 =>
tw_bd (tw_P_X10_firstStart n x0 r1) (fun r2 =>
tw_lt r2 (fun (v3 : Int32) =>
tw_lt (0 : Int32) (fun (v4 : Int32) =>
tw_lp (fun (k6 : (Int32 × Int32) → Option (Int32 × tw_Sg)) (a5 : Int32 × Int32) =>
if x2 ≤ a5.2 then (tw_bd (tw_P_X10_fewestPaces n x0 x2 a5.1 r1) (fun r7 =>
some (r7, r1)))
else (tw_bd (tw_P_X10_fewestPaces n x0 a5.2 a5.1 r1) (fun r8 =>
tw_bd (tw_P_X10_spotBehind n x0 a5.2 a5.1 r8 r1) (fun r9 =>
tw_lt r9 (fun (v10 : Int32) =>
tw_lt (a5.2 + (1 : Int32)) (fun (v11 : Int32) =>
k6 (v10, v11))))))) n (v3, v4)))))
theorem tw_y_X10_firstWalkPaces : tw_My yX10_firstWalkPaces cX10_firstWalkPaces 6 (some .int) 3 := ⟨List.mem_of_getElem? tw_w1109, List.mem_of_getElem? tw_w42, by decide +kernel, by decide +kernel, by decide +kernel⟩
theorem tw_v_X10_firstWalkPaces : tw_Mv yX10_firstWalkPaces "TreasureWalk$Trails" := ⟨List.mem_of_getElem? tw_w1107, List.mem_of_getElem? tw_w1108, rfl⟩
set_option maxRecDepth 100000 in
set_option maxHeartbeats 4000000 in
theorem tw_m_X10_firstWalkPaces {l : Launch} {B : Nat} {D : tw_G} {C : Nat → ClassId} {S : Nat → Nat} {n : Nat} {x0 : Int32} {x1 : Int32} {x2 : Int32} {σ : tw_Sg}  {r : Int32 × tw_Sg} (h : tw_P_X10_firstWalkPaces n x0 x1 x2 σ = some r) : tw_Met l B D C S yX10_firstWalkPaces cX10_firstWalkPaces 6 (some .int) ({ frames := 5, cells := 0, slots := 0, locals := 122 } : Room) [.ref (B + 33), .int x0, .int x1, .int x2] σ (some (.int r.1)) r.2 := by
  refine tw_metOfP (tw_P_X10_firstWalkPaces n x0 x1 x2 σ) r h (fun r => (some (.int r.1), r.2)) (by decide +kernel) (Nat.le_of_ble_eq_true rfl) ⟨rfl, rfl⟩ ?_
  intro z el eB eD eC eS hfr hlo hcs X hret hQ
  subst el eB eD eC eS
  have X : tw_X z cX10_firstWalkPaces "TreasureWalk$Trails" 6 := X
  show tw_Rf z r _ σ 0 [(0, .ref (tw_zB z + 33)), (1, .int x0), (2, .int x1), (3, .int x2)] []
  unfold tw_P_X10_firstWalkPaces
  refine r_aload_n X dX10_firstWalkPaces_0 rfl 0 rfl ?_
  refine r_iload_n X dX10_firstWalkPaces_1 rfl 1 rfl ?_
  refine r_iload_n X dX10_firstWalkPaces_2 rfl 2 rfl ?_
  refine r_bd (fun r1 hr1 => ?_)
  refine tw_c_X10_findWays X dX10_firstWalkPaces_3 _ tw_w1110  hr1 (tw_le hfr rfl) (tw_le hlo rfl) hcs (Nat.le_of_ble_eq_true rfl) trivial ?_
  refine r_aload_n X dX10_firstWalkPaces_6 rfl 0 rfl ?_
  refine r_iload_n X dX10_firstWalkPaces_7 rfl 1 rfl ?_
  refine r_bd (fun r2 hr2 => ?_)
  refine tw_c_X10_firstStart X dX10_firstWalkPaces_8 _ tw_w1118  hr2 (tw_le hfr rfl) (tw_le hlo rfl) hcs (Nat.le_of_ble_eq_true rfl) trivial ?_
  refine r_istore X dX10_firstWalkPaces_11 (by decide) (LL := fun v3 => [(4, .int v3), (0, .ref (tw_zB z + 33)), (1, .int x0), (2, .int x1), (3, .int x2)]) (fun _ => rfl) (fun v3 => ?_)
  refine r_iconst X dX10_firstWalkPaces_13 (v := (0 : Int32)) (by decide) ?_
  refine r_istore X dX10_firstWalkPaces_14 (by decide) (LL := fun v4 => [(5, .int v4), (4, .int v3), (0, .ref (tw_zB z + 33)), (1, .int x0), (2, .int x1), (3, .int x2)]) (fun _ => rfl) (fun v4 => ?_)
  refine tw_Rf.sub [0, 1, 2, 3, 5] rfl ?_
  refine r_lp (α := Int32 × Int32) (σJ := fun a5 => r1) (pcJ := 16) (LJ := fun a5 => [(5, .int a5.2), (4, .int a5.1), (0, .ref (tw_zB z + 33)), (1, .int x0), (3, .int x2)]) (stJ := fun a5 => []) (fun k6 hk6 a5 => ?_) n (v3, v4)
  refine r_iload X dX10_firstWalkPaces_16 0 rfl ?_
  refine r_iload_n X dX10_firstWalkPaces_18 rfl 4 rfl ?_
  refine r_icmp_ge X dX10_firstWalkPaces_19 (tgt := 48) (by decide) ?_ ?_
  ·
    refine r_aload_n X dX10_firstWalkPaces_48 rfl 2 rfl ?_
    refine r_iload_n X dX10_firstWalkPaces_49 rfl 3 rfl ?_
    refine r_iload_n X dX10_firstWalkPaces_50 rfl 4 rfl ?_
    refine r_iload X dX10_firstWalkPaces_51 1 rfl ?_
    refine r_bd (fun r7 hr7 => ?_)
    refine tw_c_X10_fewestPaces X dX10_firstWalkPaces_53 _ tw_w1114  hr7 (tw_le hfr rfl) (tw_le hlo rfl) hcs (Nat.le_of_ble_eq_true rfl) trivial ?_
    exact r_iret X dX10_firstWalkPaces_56 hret hQ rfl
  ·
    refine r_aload_n X dX10_firstWalkPaces_22 rfl 2 rfl ?_
    refine r_iload_n X dX10_firstWalkPaces_23 rfl 3 rfl ?_
    refine r_iload X dX10_firstWalkPaces_24 0 rfl ?_
    refine r_iload X dX10_firstWalkPaces_26 1 rfl ?_
    refine r_aload_n X dX10_firstWalkPaces_28 rfl 2 rfl ?_
    refine r_iload_n X dX10_firstWalkPaces_29 rfl 3 rfl ?_
    refine r_iload X dX10_firstWalkPaces_30 0 rfl ?_
    refine r_iload X dX10_firstWalkPaces_32 1 rfl ?_
    refine r_bd (fun r8 hr8 => ?_)
    refine tw_c_X10_fewestPaces X dX10_firstWalkPaces_34 _ tw_w1114  hr8 (tw_le hfr rfl) (tw_le hlo rfl) hcs (Nat.le_of_ble_eq_true rfl) trivial ?_
    refine r_bd (fun r9 hr9 => ?_)
    refine tw_c_X10_spotBehind X dX10_firstWalkPaces_37 _ tw_w1122  hr9 (tw_le hfr rfl) (tw_le hlo rfl) hcs (Nat.le_of_ble_eq_true rfl) trivial ?_
    refine r_istore X dX10_firstWalkPaces_40 (by decide) (LL := fun v10 => [(4, .int v10), (5, .int a5.2), (0, .ref (tw_zB z + 33)), (1, .int x0), (3, .int x2)]) (fun _ => rfl) (fun v10 => ?_)
    refine r_iinc X dX10_firstWalkPaces_42 1 rfl (v := (1 : Int32)) (by decide) (by decide) (LL := fun v11 => [(5, .int v11), (4, .int v10), (0, .ref (tw_zB z + 33)), (1, .int x0), (3, .int x2)]) (fun _ => rfl) (fun v11 => ?_)
    refine r_goto X dX10_firstWalkPaces_45 (tgt := 16) (by decide) ?_
    exact hk6 (v10, v11)
theorem tw_c_X10_firstWalkPaces {ρ : Type} {z : tw_Z} {cc : ByteArray} {own : String} {nL pc : Nat} {σ : tw_Sg} {L : List (Nat × Value)} {st : List Value} {ix : Nat} {n : Nat} {x0 : Int32} {x1 : Int32} {x2 : Int32} (X : tw_X z cc own nL) (d : decode cc pc = .ok (.invokevirtual ix, 3)) (i : Nat) (hi : lw_tbl[i]? = some (.methodLink own ix yX10_firstWalkPaces))  {res : ρ} {E : Option ρ} {r : Int32 × tw_Sg} (h : tw_P_X10_firstWalkPaces n x0 x1 x2 σ = some r) (h1 : 6 ≤ (tw_zR z).frames) (h2 : 147 ≤ (tw_zR z).locals) (hcs : tw_zcells z ≤ (tw_zR z).cells ∧ tw_zslots z ≤ (tw_zR z).slots) (hst : (st.map fun v => v.category).sum ≤ 8) (_ : True) (kk : tw_Rf z res E r.2 (pc + 3) L (.int r.1 :: st)) : tw_Rf z res E σ pc L (.int x2 :: .int x1 :: .int x0 :: .ref (tw_zB z + 33) :: st) := r_callV (As := [.int x0, .int x1, .int x2]) X d (tw_m_X10_firstWalkPaces  h) tw_y_X10_firstWalkPaces tw_v_X10_firstWalkPaces i hi rfl (tw_kd_lt tw_kc33 (by decide)) (tw_E10 tw_kc33) rfl ⟨rfl, rfl, h1, h2⟩ hcs hst rfl kk
def tw_P_X11_append (n : Nat) (x0 : Int32) (x1 : Int32) (x2 : Int32) (x3 : Int32) (x4 : Int32) (σ : tw_Sg) : Option (Int32 × tw_Sg) :=
if ((σ 400 1) + (20 : Int32)) ≤ (600 : Int32) then (tw_bd (tw_P_X6_addBytes n x0 σ) (fun r1 =>
tw_bd (tw_P_X6_addBytes n x1 r1) (fun r2 =>
tw_bd (tw_P_X6_addBytes n x2 r2) (fun r3 =>
tw_bd (tw_P_X6_addBytes n x3 r3) (fun r4 =>
tw_bd (tw_P_X6_addBytes n x4 r4) (fun r5 =>
some ((r5 400 1), r5)))))))
else (some ((-1 : Int32), σ))
theorem tw_y_X11_append : tw_My yX11_append cX11_append 6 (some .int) 5 := ⟨List.mem_of_getElem? tw_w1256, List.mem_of_getElem? tw_w36, by decide +kernel, by decide +kernel, by decide +kernel⟩
theorem tw_v_X11_append : tw_Mv yX11_append "TreasureWalk" := ⟨List.mem_of_getElem? tw_w1254, List.mem_of_getElem? tw_w1255, rfl⟩
set_option maxRecDepth 100000 in
set_option maxHeartbeats 4000000 in
theorem tw_m_X11_append {l : Launch} {B : Nat} {D : tw_G} {C : Nat → ClassId} {S : Nat → Nat} {n : Nat} {x0 : Int32} {x1 : Int32} {x2 : Int32} {x3 : Int32} {x4 : Int32} {σ : tw_Sg}  {r : Int32 × tw_Sg} (h : tw_P_X11_append n x0 x1 x2 x3 x4 σ = some r) : tw_Met l B D C S yX11_append cX11_append 6 (some .int) ({ frames := 2, cells := 0, slots := 0, locals := 44 } : Room) [.ref (B + 0), .int x0, .int x1, .int x2, .int x3, .int x4] σ (some (.int r.1)) r.2 := by
  refine tw_metOfP (tw_P_X11_append n x0 x1 x2 x3 x4 σ) r h (fun r => (some (.int r.1), r.2)) (by decide +kernel) (Nat.le_of_ble_eq_true rfl) ⟨rfl, rfl⟩ ?_
  intro z el eB eD eC eS hfr hlo hcs X hret hQ
  subst el eB eD eC eS
  have X : tw_X z cX11_append "TreasureWalk" 6 := X
  show tw_Rf z r _ σ 0 [(0, .ref (tw_zB z + 0)), (1, .int x0), (2, .int x1), (3, .int x2), (4, .int x3), (5, .int x4)] []
  unfold tw_P_X11_append
  refine r_aload_n X dX11_append_0 rfl 0 rfl ?_
  refine tw_g11_2 (k := 0) (v := .ref (tw_zB z + 400)) X dX11_append_1 _ tw_w433 tw_kc0 rfl ?_
  refine tw_g6_1N (k := 400) (v := .int (σ 400 1)) X dX11_append_4 _ tw_w369 tw_kc400 rfl ?_
  refine r_bipush X dX11_append_7 (v := (20 : Int32)) (by decide) ?_
  refine r_iadd X dX11_append_9 ?_
  refine r_sipush X dX11_append_10 (v := (600 : Int32)) (by decide) ?_
  refine r_icmp_le X dX11_append_13 (tgt := 18) (by decide) ?_ ?_
  ·
    refine r_aload_n X dX11_append_18 rfl 0 rfl ?_
    refine tw_g11_2 (k := 0) (v := .ref (tw_zB z + 400)) X dX11_append_19 _ tw_w433 tw_kc0 rfl ?_
    refine r_iload_n X dX11_append_22 rfl 1 rfl ?_
    refine r_bd (fun r1 hr1 => ?_)
    refine tw_c_X6_addBytes X dX11_append_23 _ tw_w1257  hr1 (tw_le hfr rfl) (tw_le hlo rfl) hcs (Nat.le_of_ble_eq_true rfl) trivial ?_
    refine r_aload_n X dX11_append_26 rfl 0 rfl ?_
    refine tw_g11_2 (k := 0) (v := .ref (tw_zB z + 400)) X dX11_append_27 _ tw_w433 tw_kc0 rfl ?_
    refine r_iload_n X dX11_append_30 rfl 2 rfl ?_
    refine r_bd (fun r2 hr2 => ?_)
    refine tw_c_X6_addBytes X dX11_append_31 _ tw_w1257  hr2 (tw_le hfr rfl) (tw_le hlo rfl) hcs (Nat.le_of_ble_eq_true rfl) trivial ?_
    refine r_aload_n X dX11_append_34 rfl 0 rfl ?_
    refine tw_g11_2 (k := 0) (v := .ref (tw_zB z + 400)) X dX11_append_35 _ tw_w433 tw_kc0 rfl ?_
    refine r_iload_n X dX11_append_38 rfl 3 rfl ?_
    refine r_bd (fun r3 hr3 => ?_)
    refine tw_c_X6_addBytes X dX11_append_39 _ tw_w1257  hr3 (tw_le hfr rfl) (tw_le hlo rfl) hcs (Nat.le_of_ble_eq_true rfl) trivial ?_
    refine r_aload_n X dX11_append_42 rfl 0 rfl ?_
    refine tw_g11_2 (k := 0) (v := .ref (tw_zB z + 400)) X dX11_append_43 _ tw_w433 tw_kc0 rfl ?_
    refine r_iload X dX11_append_46 4 rfl ?_
    refine r_bd (fun r4 hr4 => ?_)
    refine tw_c_X6_addBytes X dX11_append_48 _ tw_w1257  hr4 (tw_le hfr rfl) (tw_le hlo rfl) hcs (Nat.le_of_ble_eq_true rfl) trivial ?_
    refine r_aload_n X dX11_append_51 rfl 0 rfl ?_
    refine tw_g11_2 (k := 0) (v := .ref (tw_zB z + 400)) X dX11_append_52 _ tw_w433 tw_kc0 rfl ?_
    refine r_iload X dX11_append_55 5 rfl ?_
    refine r_bd (fun r5 hr5 => ?_)
    refine tw_c_X6_addBytes X dX11_append_57 _ tw_w1257  hr5 (tw_le hfr rfl) (tw_le hlo rfl) hcs (Nat.le_of_ble_eq_true rfl) trivial ?_
    refine r_aload_n X dX11_append_60 rfl 0 rfl ?_
    refine tw_g11_2 (k := 0) (v := .ref (tw_zB z + 400)) X dX11_append_61 _ tw_w433 tw_kc0 rfl ?_
    refine tw_g6_1N (k := 400) (v := .int (r5 400 1)) X dX11_append_64 _ tw_w369 tw_kc400 rfl ?_
    exact r_iret X dX11_append_67 hret hQ rfl
  ·
    refine r_iconst X dX11_append_16 (v := (-1 : Int32)) (by decide) ?_
    exact r_iret X dX11_append_17 hret hQ rfl
def tw_P_X11_load (n : Nat) (x0 : Int32) (σ : tw_Sg) : Option ((Int32 × tw_Sg) ⊕ String) :=
tw_jn (fun (a1 : Unit) =>
some (Sum.inr "java/lang/IllegalArgumentException")) (fun (j2 : (Unit) → Option ((Int32 × tw_Sg) ⊕ String)) =>
if x0 < 0 then (j2 ())
else (if x0 ≤ (σ 400 1) then (tw_bd (tw_P_X6_read n x0 σ) (fun r3 =>
tw_lt r3.1 (fun (v4 : Int32) =>
tw_lt (tw_up r3.2 0 6 (r3.2 400 8)) (fun (σ5 : tw_Sg) =>
if v4 = 0 then (tw_bd (tw_P_X4_keep 1 σ5) (fun r6 =>
tw_bd (tw_P_X2_copyFrom 1 403 r6) (fun r7 =>
tw_bd (tw_P_X10_renew n r7) (fun r8 =>
some (Sum.inl ((r8 14 0), r8))))))
else (some (Sum.inl (v4, σ5)))))))
else (j2 ())))
theorem tw_y_X11_load : tw_My yX11_load cX11_load 3 (some .int) 1 := ⟨List.mem_of_getElem? tw_w755, List.mem_of_getElem? tw_w36, by decide +kernel, by decide +kernel, by decide +kernel⟩
theorem tw_v_X11_load : tw_Mv yX11_load "TreasureWalk" := ⟨List.mem_of_getElem? tw_w753, List.mem_of_getElem? tw_w754, rfl⟩
set_option maxRecDepth 100000 in
set_option maxHeartbeats 4000000 in
theorem tw_b_X11_load {l : Launch} {B : Nat} {D : tw_G} {C : Nat → ClassId} {S : Nat → Nat} {n : Nat} {x0 : Int32} {σ : tw_Sg}  (z : tw_Z) (res : (Int32 × tw_Sg) ⊕ String) (el : tw_zl z = l) (eB : tw_zB z = B) (eD : tw_zD z = D) (eC : tw_zC z = C) (eS : tw_zS z = S) (hfr : (tw_zR z).frames = 11) (hlo : (tw_zR z).locals = 235) (hcs : tw_zcells z ≤ (tw_zR z).cells ∧ tw_zslots z ≤ (tw_zR z).slots) (X : tw_X z cX11_load "TreasureWalk" 3) (hret : (tw_zmeth z).sig.returnType = (some .int)) (hQ : tw_RoX z (fun r => (some (.int r.1), r.2)) res) (hT : ∀ x, res = .inr x → tw_To z σ x) : tw_Rf z res (tw_P_X11_load n x0 σ) σ 0 (lv_args 0 [.ref (B + 0), .int x0]) [] := by
  subst el eB eD eC eS
  show tw_Rf z res _ σ 0 [(0, .ref (tw_zB z + 0)), (1, .int x0)] []
  unfold tw_P_X11_load
  refine r_iload_n X dX11_load_0 rfl 1 rfl ?_
  refine r_jn (α := Unit) (σJ := fun a1 => σ) (pcJ := 15) (LJ := fun a1 => []) (stJ := fun a1 => []) (ok := fun a1 => True) (fun a1 hoka1 => ?_) (fun j2 hj2 => ?_)
  ·
    exact tw_th0_A X dX11_load_15 dX11_load_18 dX11_load_19 dX11_load_21 dX11_load_24 rfl tw_l_A_81 hT
  refine r_if_lt X dX11_load_1 (tgt := 15) (by decide) ?_ ?_
  ·
    exact tw_Rf.sub [] rfl (hj2 () trivial)
  ·
    refine r_iload_n X dX11_load_4 rfl 1 rfl ?_
    refine r_aload_n X dX11_load_5 rfl 0 rfl ?_
    refine tw_g11_2 (k := 0) (v := .ref (tw_zB z + 400)) X dX11_load_6 _ tw_w433 tw_kc0 rfl ?_
    refine tw_g6_1N (k := 400) (v := .int (σ 400 1)) X dX11_load_9 _ tw_w369 tw_kc400 rfl ?_
    refine r_icmp_le X dX11_load_12 (tgt := 25) (by decide) ?_ ?_
    ·
      refine r_aload_n X dX11_load_25 rfl 0 rfl ?_
      refine tw_g11_2 (k := 0) (v := .ref (tw_zB z + 400)) X dX11_load_26 _ tw_w433 tw_kc0 rfl ?_
      refine r_iload_n X dX11_load_29 rfl 1 rfl ?_
      refine r_bd (fun r3 hr3 => ?_)
      refine tw_c_X6_read X dX11_load_30 _ tw_w824  hr3 (tw_le hfr rfl) (tw_le hlo rfl) hcs (Nat.le_of_ble_eq_true rfl) trivial ?_
      refine r_istore_n X dX11_load_33 rfl (by decide) (LL := fun v4 => [(2, .int v4), (0, .ref (tw_zB z + 0)), (1, .int x0)]) (fun _ => rfl) (fun v4 => ?_)
      refine r_aload_n X dX11_load_34 rfl 1 rfl ?_
      refine r_aload_n X dX11_load_35 rfl 1 rfl ?_
      refine tw_g11_2 (k := 0) (v := .ref (tw_zB z + 400)) X dX11_load_36 _ tw_w433 tw_kc0 rfl ?_
      refine tw_g6_8N (k := 400) (v := .int (r3.2 400 8)) X dX11_load_39 _ tw_w379 tw_kc400 rfl ?_
      refine tw_s11_6 (k := 0) X dX11_load_42 _ tw_w437 tw_kc0 (fun σ5 => ?_)
      refine r_iload_n X dX11_load_45 rfl 0 rfl ?_
      refine r_if_eq X dX11_load_46 (tgt := 51) (by decide) ?_ ?_
      ·
        refine r_aload_n X dX11_load_51 rfl 1 rfl ?_
        refine tw_g11_1 (k := 0) (v := .ref (tw_zB z + 142)) X dX11_load_52 _ tw_w432 tw_kc0 rfl ?_
        refine r_aload_n X dX11_load_55 rfl 1 rfl ?_
        refine tw_g11_0 (k := 0) (v := .ref (tw_zB z + 1)) X dX11_load_56 _ tw_w431 tw_kc0 rfl ?_
        refine r_bd (fun r6 hr6 => ?_)
        refine tw_c_X4_keep X dX11_load_59 _ tw_w461 tw_kc1 hr6 (tw_le hfr rfl) (tw_le hlo rfl) hcs (Nat.le_of_ble_eq_true rfl) trivial ?_
        refine r_aload_n X dX11_load_62 rfl 1 rfl ?_
        refine tw_g11_0 (k := 0) (v := .ref (tw_zB z + 1)) X dX11_load_63 _ tw_w431 tw_kc0 rfl ?_
        refine r_aload_n X dX11_load_66 rfl 1 rfl ?_
        refine tw_g11_2 (k := 0) (v := .ref (tw_zB z + 400)) X dX11_load_67 _ tw_w433 tw_kc0 rfl ?_
        refine tw_g6_2N (k := 400) (v := .ref (tw_zB z + 403)) X dX11_load_70 _ tw_w372 tw_kc400 rfl ?_
        refine r_bd (fun r7 hr7 => ?_)
        refine tw_c_X2_copyFrom X dX11_load_73 _ tw_w1032 tw_kc1 tw_kc403 hr7 (tw_le hfr rfl) (tw_le hlo rfl) hcs (Nat.le_of_ble_eq_true rfl) trivial ?_
        refine r_aload_n X dX11_load_76 rfl 1 rfl ?_
        refine tw_g11_3 (k := 0) (v := .ref (tw_zB z + 33)) X dX11_load_77 _ tw_w434 tw_kc0 rfl ?_
        refine r_bd (fun r8 hr8 => ?_)
        refine tw_c_X10_renew X dX11_load_80 _ tw_w508  hr8 (tw_le hfr rfl) (tw_le hlo rfl) hcs (Nat.le_of_ble_eq_true rfl) trivial ?_
        refine r_aload_n X dX11_load_83 rfl 1 rfl ?_
        refine tw_g11_0 (k := 0) (v := .ref (tw_zB z + 1)) X dX11_load_84 _ tw_w431 tw_kc0 rfl ?_
        refine tw_g2_9N (k := 1) (v := .ref (tw_zB z + 14)) X dX11_load_87 _ tw_w195 tw_kc1 rfl ?_
        refine tw_g1_0N (k := 14) (v := .int (r8 14 0)) X dX11_load_90 _ tw_w116 tw_kc14 rfl ?_
        exact r_iretX X dX11_load_93 hret hQ rfl
      ·
        refine r_iload_n X dX11_load_49 rfl 0 rfl ?_
        exact r_iretX X dX11_load_50 hret hQ rfl
    ·
      exact tw_Rf.sub [] rfl (hj2 () trivial)
theorem tw_m_X11_load {l : Launch} {B : Nat} {D : tw_G} {C : Nat → ClassId} {S : Nat → Nat} {n : Nat} {x0 : Int32} {σ : tw_Sg}  {r : Int32 × tw_Sg} (h : tw_P_X11_load n x0 σ = some (.inl r)) : tw_Met l B D C S yX11_load cX11_load 3 (some .int) ({ frames := 11, cells := 0, slots := 0, locals := 235 } : Room) [.ref (B + 0), .int x0] σ (some (.int r.1)) r.2 := tw_metOfR (rm := ({ frames := 11, cells := 0, slots := 0, locals := 235 } : Room)) (tw_P_X11_load n x0 σ) r h (fun r => (some (.int r.1), r.2)) (by decide +kernel) (Nat.le_of_ble_eq_true rfl) (fun z res el eB eD eC eS hfr hlo hcs X hret hQ hT => tw_b_X11_load  z res el eB eD eC eS hfr hlo hcs X hret hQ hT)
theorem tw_mx_X11_load {l : Launch} {B : Nat} {D : tw_G} {C : Nat → ClassId} {S : Nat → Nat} {n : Nat} {x0 : Int32} {σ : tw_Sg}  (hst : l.stackTraces = false) {x : String} (h : tw_P_X11_load n x0 σ = some (.inr x)) : tw_MetX l B D C S yX11_load cX11_load 3 (some .int) ({ frames := 11, cells := 1, slots := 6, locals := 235 } : Room) [.ref (B + 0), .int x0] σ x := tw_metOfX (rm := ({ frames := 11, cells := 0, slots := 0, locals := 235 } : Room)) hst (tw_P_X11_load n x0 σ) x h (fun r => (some (.int r.1), r.2)) (by decide +kernel) (Nat.le_of_ble_eq_true rfl) ⟨by decide, by decide⟩ (fun z res el eB eD eC eS hfr hlo hcs X hret hQ hT => tw_b_X11_load  z res el eB eD eC eS hfr hlo hcs X hret hQ hT)
def tw_P_X11_errorOffset  (σ : tw_Sg) : Option (Int32) :=
some (σ 0 6)
theorem tw_y_X11_errorOffset : tw_My yX11_errorOffset cX11_errorOffset 1 (some .int) 0 := ⟨List.mem_of_getElem? tw_w456, List.mem_of_getElem? tw_w36, by decide +kernel, by decide +kernel, by decide +kernel⟩
theorem tw_v_X11_errorOffset : tw_Mv yX11_errorOffset "TreasureWalk" := ⟨List.mem_of_getElem? tw_w454, List.mem_of_getElem? tw_w455, rfl⟩
set_option maxRecDepth 100000 in
set_option maxHeartbeats 4000000 in
theorem tw_m_X11_errorOffset {l : Launch} {B : Nat} {D : tw_G} {C : Nat → ClassId} {S : Nat → Nat}  {σ : tw_Sg}  {r : Int32} (h : tw_P_X11_errorOffset σ = some r) : tw_Met l B D C S yX11_errorOffset cX11_errorOffset 1 (some .int) ({ frames := 0, cells := 0, slots := 0, locals := 0 } : Room) [.ref (B + 0)] σ (some (.int r)) σ := by
  refine tw_metOfP (tw_P_X11_errorOffset σ) r h (fun r => (some (.int r), σ)) (by decide +kernel) (Nat.le_of_ble_eq_true rfl) ⟨rfl, rfl⟩ ?_
  intro z el eB eD eC eS hfr hlo hcs X hret hQ
  subst el eB eD eC eS
  have X : tw_X z cX11_errorOffset "TreasureWalk" 1 := X
  show tw_Rf z r _ σ 0 [(0, .ref (tw_zB z + 0))] []
  unfold tw_P_X11_errorOffset
  refine r_aload_n X dX11_errorOffset_0 rfl 0 rfl ?_
  refine tw_g11_6 (k := 0) (v := .int (σ 0 6)) X dX11_errorOffset_1 _ tw_w437 tw_kc0 rfl ?_
  exact r_iret X dX11_errorOffset_4 hret hQ rfl
def tw_P_X11_state (n : Nat) (x0 : Int32) (σ : tw_Sg) : Option ((Int32 × tw_Sg) ⊕ String) :=
if x0 = (0 : Int32) then (some (Sum.inl ((σ 1 0), σ)))
else (if x0 = (1 : Int32) then (some (Sum.inl ((σ 1 1), σ)))
else (if x0 = (2 : Int32) then (tw_bd (tw_P_X2_countMarks n 1 σ) (fun r4 =>
some (Sum.inl (r4, σ))))
else (if x0 = (3 : Int32) then (some (Sum.inl ((σ 1 5), σ)))
else (if x0 = (4 : Int32) then (some (Sum.inl ((σ 14 0), σ)))
else (if x0 = (5 : Int32) then (tw_bd (tw_P_X1_countUsed n 14 σ) (fun r8 =>
some (Sum.inl (r8, σ))))
else (if x0 = (6 : Int32) then (tw_bd (tw_P_X8_candidates n σ) (fun r10 =>
tw_ck (decide (r10.1 = 140)) (
tw_bd (tw_P_X0_count n 140 r10.2) (fun r12 =>
some (Sum.inl (r12, r10.2))))))
else (if x0 = (7 : Int32) then (tw_bd (tw_P_X8_left n σ) (fun r14 =>
tw_ck (decide (r14.1 = 140)) (
tw_bd (tw_P_X0_count n 140 r14.2) (fun r16 =>
some (Sum.inl (r16, r14.2))))))
else (if x0 = (8 : Int32) then (tw_bd (tw_P_X0_count n 4 σ) (fun r18 =>
some (Sum.inl (r18, σ))))
else (if x0 = (9 : Int32) then (tw_bd (tw_P_X8_countParts n σ) (fun r20 =>
some (Sum.inl (r20.1, r20.2))))
else (if x0 = (10 : Int32) then (tw_bd (tw_P_X2_numberOf 1 (σ 1 10) σ) (fun r22 =>
some (Sum.inl (r22, σ))))
else (if x0 = (11 : Int32) then (some (Sum.inl ((σ 1 11), σ)))
else (if x0 = (12 : Int32) then (some (Sum.inl ((σ 1 12), σ)))
else (some (Sum.inr "java/lang/IllegalArgumentException"))))))))))))))
theorem tw_y_X11_state : tw_My yX11_state cX11_state 2 (some .int) 1 := ⟨List.mem_of_getElem? tw_w1553, List.mem_of_getElem? tw_w36, by decide +kernel, by decide +kernel, by decide +kernel⟩
theorem tw_v_X11_state : tw_Mv yX11_state "TreasureWalk" := ⟨List.mem_of_getElem? tw_w1551, List.mem_of_getElem? tw_w1552, rfl⟩
set_option maxRecDepth 100000 in
set_option maxHeartbeats 4000000 in
theorem tw_b_X11_state {l : Launch} {B : Nat} {D : tw_G} {C : Nat → ClassId} {S : Nat → Nat} {n : Nat} {x0 : Int32} {σ : tw_Sg}  (z : tw_Z) (res : (Int32 × tw_Sg) ⊕ String) (el : tw_zl z = l) (eB : tw_zB z = B) (eD : tw_zD z = D) (eC : tw_zC z = C) (eS : tw_zS z = S) (hfr : (tw_zR z).frames = 6) (hlo : (tw_zR z).locals = 145) (hcs : tw_zcells z ≤ (tw_zR z).cells ∧ tw_zslots z ≤ (tw_zR z).slots) (X : tw_X z cX11_state "TreasureWalk" 2) (hret : (tw_zmeth z).sig.returnType = (some .int)) (hQ : tw_RoX z (fun r => (some (.int r.1), r.2)) res) (hT : ∀ x, res = .inr x → tw_To z σ x) : tw_Rf z res (tw_P_X11_state n x0 σ) σ 0 (lv_args 0 [.ref (B + 0), .int x0]) [] := by
  subst el eB eD eC eS
  show tw_Rf z res _ σ 0 [(0, .ref (tw_zB z + 0)), (1, .int x0)] []
  unfold tw_P_X11_state
  refine r_iload_n X dX11_state_0 rfl 1 rfl ?_
  refine r_ite (fun h1 => ?_) (fun h1 => ?_)
  ·
    refine r_tsw X dX11_state_1 h1 (by decide) (by decide) rfl (tgt := 68) (by decide) ?_
    refine r_aload_n X dX11_state_68 rfl 0 rfl ?_
    refine tw_g11_0 (k := 0) (v := .ref (tw_zB z + 1)) X dX11_state_69 _ tw_w431 tw_kc0 rfl ?_
    refine tw_g2_0N (k := 1) (v := .int (σ 1 0)) X dX11_state_72 _ tw_w165 tw_kc1 rfl ?_
    exact r_iretX X dX11_state_75 hret hQ rfl
  refine r_ite (fun h2 => ?_) (fun h2 => ?_)
  ·
    refine r_tsw X dX11_state_1 h2 (by decide) (by decide) rfl (tgt := 76) (by decide) ?_
    refine r_aload_n X dX11_state_76 rfl 0 rfl ?_
    refine tw_g11_0 (k := 0) (v := .ref (tw_zB z + 1)) X dX11_state_77 _ tw_w431 tw_kc0 rfl ?_
    refine tw_g2_1N (k := 1) (v := .int (σ 1 1)) X dX11_state_80 _ tw_w168 tw_kc1 rfl ?_
    exact r_iretX X dX11_state_83 hret hQ rfl
  refine r_ite (fun h3 => ?_) (fun h3 => ?_)
  ·
    refine r_tsw X dX11_state_1 h3 (by decide) (by decide) rfl (tgt := 84) (by decide) ?_
    refine r_aload_n X dX11_state_84 rfl 0 rfl ?_
    refine tw_g11_0 (k := 0) (v := .ref (tw_zB z + 1)) X dX11_state_85 _ tw_w431 tw_kc0 rfl ?_
    refine r_bd (fun r4 hr4 => ?_)
    refine tw_c_X2_countMarks X dX11_state_88 _ tw_w1554 tw_kc1 hr4 (tw_le hfr rfl) (tw_le hlo rfl) hcs (Nat.le_of_ble_eq_true rfl) trivial ?_
    exact r_iretX X dX11_state_91 hret hQ rfl
  refine r_ite (fun h5 => ?_) (fun h5 => ?_)
  ·
    refine r_tsw X dX11_state_1 h5 (by decide) (by decide) rfl (tgt := 92) (by decide) ?_
    refine r_aload_n X dX11_state_92 rfl 0 rfl ?_
    refine tw_g11_0 (k := 0) (v := .ref (tw_zB z + 1)) X dX11_state_93 _ tw_w431 tw_kc0 rfl ?_
    refine tw_g2_5N (k := 1) (v := .int (σ 1 5)) X dX11_state_96 _ tw_w183 tw_kc1 rfl ?_
    exact r_iretX X dX11_state_99 hret hQ rfl
  refine r_ite (fun h6 => ?_) (fun h6 => ?_)
  ·
    refine r_tsw X dX11_state_1 h6 (by decide) (by decide) rfl (tgt := 100) (by decide) ?_
    refine r_aload_n X dX11_state_100 rfl 0 rfl ?_
    refine tw_g11_0 (k := 0) (v := .ref (tw_zB z + 1)) X dX11_state_101 _ tw_w431 tw_kc0 rfl ?_
    refine tw_g2_9N (k := 1) (v := .ref (tw_zB z + 14)) X dX11_state_104 _ tw_w195 tw_kc1 rfl ?_
    refine tw_g1_0N (k := 14) (v := .int (σ 14 0)) X dX11_state_107 _ tw_w116 tw_kc14 rfl ?_
    exact r_iretX X dX11_state_110 hret hQ rfl
  refine r_ite (fun h7 => ?_) (fun h7 => ?_)
  ·
    refine r_tsw X dX11_state_1 h7 (by decide) (by decide) rfl (tgt := 111) (by decide) ?_
    refine r_aload_n X dX11_state_111 rfl 0 rfl ?_
    refine tw_g11_0 (k := 0) (v := .ref (tw_zB z + 1)) X dX11_state_112 _ tw_w431 tw_kc0 rfl ?_
    refine tw_g2_9N (k := 1) (v := .ref (tw_zB z + 14)) X dX11_state_115 _ tw_w195 tw_kc1 rfl ?_
    refine r_bd (fun r8 hr8 => ?_)
    refine tw_c_X1_countUsed X dX11_state_118 _ tw_w1558 tw_kc14 hr8 (tw_le hfr rfl) (tw_le hlo rfl) hcs (Nat.le_of_ble_eq_true rfl) trivial ?_
    exact r_iretX X dX11_state_121 hret hQ rfl
  refine r_ite (fun h9 => ?_) (fun h9 => ?_)
  ·
    refine r_tsw X dX11_state_1 h9 (by decide) (by decide) rfl (tgt := 122) (by decide) ?_
    refine r_aload_n X dX11_state_122 rfl 0 rfl ?_
    refine tw_g11_4 (k := 0) (v := .ref (tw_zB z + 134)) X dX11_state_123 _ tw_w435 tw_kc0 rfl ?_
    refine r_bd (fun r10 hr10 => ?_)
    refine tw_c_X8_candidates X dX11_state_126 _ tw_w1563  hr10 (tw_le hfr rfl) (tw_le hlo rfl) hcs (Nat.le_of_ble_eq_true rfl) trivial ?_
    refine r_ck (fun h11 => ?_)
    rw [(of_decide_eq_true h11 : r10.1 = 140)]
    refine r_bd (fun r12 hr12 => ?_)
    refine tw_c_X0_count X dX11_state_129 _ tw_w1216 tw_kc140 hr12 (tw_le hfr rfl) (tw_le hlo rfl) hcs (Nat.le_of_ble_eq_true rfl) trivial ?_
    exact r_iretX X dX11_state_132 hret hQ rfl
  refine r_ite (fun h13 => ?_) (fun h13 => ?_)
  ·
    refine r_tsw X dX11_state_1 h13 (by decide) (by decide) rfl (tgt := 133) (by decide) ?_
    refine r_aload_n X dX11_state_133 rfl 0 rfl ?_
    refine tw_g11_4 (k := 0) (v := .ref (tw_zB z + 134)) X dX11_state_134 _ tw_w435 tw_kc0 rfl ?_
    refine r_bd (fun r14 hr14 => ?_)
    refine tw_c_X8_left X dX11_state_137 _ tw_w1215  hr14 (tw_le hfr rfl) (tw_le hlo rfl) hcs (Nat.le_of_ble_eq_true rfl) trivial ?_
    refine r_ck (fun h15 => ?_)
    rw [(of_decide_eq_true h15 : r14.1 = 140)]
    refine r_bd (fun r16 hr16 => ?_)
    refine tw_c_X0_count X dX11_state_140 _ tw_w1216 tw_kc140 hr16 (tw_le hfr rfl) (tw_le hlo rfl) hcs (Nat.le_of_ble_eq_true rfl) trivial ?_
    exact r_iretX X dX11_state_143 hret hQ rfl
  refine r_ite (fun h17 => ?_) (fun h17 => ?_)
  ·
    refine r_tsw X dX11_state_1 h17 (by decide) (by decide) rfl (tgt := 144) (by decide) ?_
    refine r_aload_n X dX11_state_144 rfl 0 rfl ?_
    refine tw_g11_0 (k := 0) (v := .ref (tw_zB z + 1)) X dX11_state_145 _ tw_w431 tw_kc0 rfl ?_
    refine tw_g2_3N (k := 1) (v := .ref (tw_zB z + 4)) X dX11_state_148 _ tw_w177 tw_kc1 rfl ?_
    refine r_bd (fun r18 hr18 => ?_)
    refine tw_c_X0_count X dX11_state_151 _ tw_w1216 tw_kc4 hr18 (tw_le hfr rfl) (tw_le hlo rfl) hcs (Nat.le_of_ble_eq_true rfl) trivial ?_
    exact r_iretX X dX11_state_154 hret hQ rfl
  refine r_ite (fun h19 => ?_) (fun h19 => ?_)
  ·
    refine r_tsw X dX11_state_1 h19 (by decide) (by decide) rfl (tgt := 155) (by decide) ?_
    refine r_aload_n X dX11_state_155 rfl 0 rfl ?_
    refine tw_g11_4 (k := 0) (v := .ref (tw_zB z + 134)) X dX11_state_156 _ tw_w435 tw_kc0 rfl ?_
    refine r_bd (fun r20 hr20 => ?_)
    refine tw_c_X8_countParts X dX11_state_159 _ tw_w1564  hr20 (tw_le hfr rfl) (tw_le hlo rfl) hcs (Nat.le_of_ble_eq_true rfl) trivial ?_
    exact r_iretX X dX11_state_162 hret hQ rfl
  refine r_ite (fun h21 => ?_) (fun h21 => ?_)
  ·
    refine r_tsw X dX11_state_1 h21 (by decide) (by decide) rfl (tgt := 163) (by decide) ?_
    refine r_aload_n X dX11_state_163 rfl 0 rfl ?_
    refine tw_g11_0 (k := 0) (v := .ref (tw_zB z + 1)) X dX11_state_164 _ tw_w431 tw_kc0 rfl ?_
    refine r_aload_n X dX11_state_167 rfl 0 rfl ?_
    refine tw_g11_0 (k := 0) (v := .ref (tw_zB z + 1)) X dX11_state_168 _ tw_w431 tw_kc0 rfl ?_
    refine tw_g2_10N (k := 1) (v := .int (σ 1 10)) X dX11_state_171 _ tw_w197 tw_kc1 rfl ?_
    refine r_bd (fun r22 hr22 => ?_)
    refine tw_c_X2_numberOf X dX11_state_174 _ tw_w1064 tw_kc1 hr22 (tw_le hfr rfl) (tw_le hlo rfl) hcs (Nat.le_of_ble_eq_true rfl) trivial ?_
    exact r_iretX X dX11_state_177 hret hQ rfl
  refine r_ite (fun h23 => ?_) (fun h23 => ?_)
  ·
    refine r_tsw X dX11_state_1 h23 (by decide) (by decide) rfl (tgt := 178) (by decide) ?_
    refine r_aload_n X dX11_state_178 rfl 0 rfl ?_
    refine tw_g11_0 (k := 0) (v := .ref (tw_zB z + 1)) X dX11_state_179 _ tw_w431 tw_kc0 rfl ?_
    refine tw_g2_11N (k := 1) (v := .int (σ 1 11)) X dX11_state_182 _ tw_w201 tw_kc1 rfl ?_
    exact r_iretX X dX11_state_185 hret hQ rfl
  refine r_ite (fun h24 => ?_) (fun h24 => ?_)
  ·
    refine r_tsw X dX11_state_1 h24 (by decide) (by decide) rfl (tgt := 186) (by decide) ?_
    refine r_aload_n X dX11_state_186 rfl 0 rfl ?_
    refine tw_g11_0 (k := 0) (v := .ref (tw_zB z + 1)) X dX11_state_187 _ tw_w431 tw_kc0 rfl ?_
    refine tw_g2_12N (k := 1) (v := .int (σ 1 12)) X dX11_state_190 _ tw_w203 tw_kc1 rfl ?_
    exact r_iretX X dX11_state_193 hret hQ rfl
  refine r_tswD X dX11_state_1 (tgt := 194) (tw_out12 h1 h2 h3 h5 h6 h7 h9 h13 h17 h19 h21 h23 h24) (by decide) ?_
  exact tw_th0_A X dX11_state_194 dX11_state_197 dX11_state_198 dX11_state_200 dX11_state_203 rfl tw_l_A_155 hT
theorem tw_m_X11_state {l : Launch} {B : Nat} {D : tw_G} {C : Nat → ClassId} {S : Nat → Nat} {n : Nat} {x0 : Int32} {σ : tw_Sg}  {r : Int32 × tw_Sg} (h : tw_P_X11_state n x0 σ = some (.inl r)) : tw_Met l B D C S yX11_state cX11_state 2 (some .int) ({ frames := 6, cells := 0, slots := 0, locals := 145 } : Room) [.ref (B + 0), .int x0] σ (some (.int r.1)) r.2 := tw_metOfR (rm := ({ frames := 6, cells := 0, slots := 0, locals := 145 } : Room)) (tw_P_X11_state n x0 σ) r h (fun r => (some (.int r.1), r.2)) (by decide +kernel) (Nat.le_of_ble_eq_true rfl) (fun z res el eB eD eC eS hfr hlo hcs X hret hQ hT => tw_b_X11_state  z res el eB eD eC eS hfr hlo hcs X hret hQ hT)
theorem tw_mx_X11_state {l : Launch} {B : Nat} {D : tw_G} {C : Nat → ClassId} {S : Nat → Nat} {n : Nat} {x0 : Int32} {σ : tw_Sg}  (hst : l.stackTraces = false) {x : String} (h : tw_P_X11_state n x0 σ = some (.inr x)) : tw_MetX l B D C S yX11_state cX11_state 2 (some .int) ({ frames := 6, cells := 1, slots := 6, locals := 145 } : Room) [.ref (B + 0), .int x0] σ x := tw_metOfX (rm := ({ frames := 6, cells := 0, slots := 0, locals := 145 } : Room)) hst (tw_P_X11_state n x0 σ) x h (fun r => (some (.int r.1), r.2)) (by decide +kernel) (Nat.le_of_ble_eq_true rfl) ⟨by decide, by decide⟩ (fun z res el eB eD eC eS hfr hlo hcs X hret hQ hT => tw_b_X11_state  z res el eB eD eC eS hfr hlo hcs X hret hQ hT)
theorem tw_c_X11_state {ρ : Type} {z : tw_Z} {cc : ByteArray} {own : String} {nL pc : Nat} {σ : tw_Sg} {L : List (Nat × Value)} {st : List Value} {ix : Nat} {n : Nat} {x0 : Int32} (X : tw_X z cc own nL) (d : decode cc pc = .ok (.invokevirtual ix, 3)) (i : Nat) (hi : lw_tbl[i]? = some (.methodLink own ix yX11_state))  {res : ρ} {E : Option ρ} {r : Int32 × tw_Sg} (h : tw_P_X11_state n x0 σ = some (.inl r)) (h1 : 7 ≤ (tw_zR z).frames) (h2 : 166 ≤ (tw_zR z).locals) (hcs : tw_zcells z ≤ (tw_zR z).cells ∧ tw_zslots z ≤ (tw_zR z).slots) (hst : (st.map fun v => v.category).sum ≤ 8) (_ : True) (kk : tw_Rf z res E r.2 (pc + 3) L (.int r.1 :: st)) : tw_Rf z res E σ pc L (.int x0 :: .ref (tw_zB z + 0) :: st) := r_callV (As := [.int x0]) X d (tw_m_X11_state  h) tw_y_X11_state tw_v_X11_state i hi rfl (tw_kd_lt tw_kc0 (by decide)) (tw_E11 tw_kc0) rfl ⟨rfl, rfl, h1, h2⟩ hcs hst rfl kk
theorem tw_cx_X11_state {ρ : Type} {z : tw_Z} {cc : ByteArray} {own : String} {nL pc : Nat} {σ : tw_Sg} {L : List (Nat × Value)} {st : List Value} {ix : Nat} {n : Nat} {x0 : Int32} (X : tw_X z cc own nL) (d : decode cc pc = .ok (.invokevirtual ix, 3)) (i : Nat) (hi : lw_tbl[i]? = some (.methodLink own ix yX11_state))  {res : ρ ⊕ String} {x : String} (h : tw_P_X11_state n x0 σ = some (.inr x)) (h1 : 7 ≤ (tw_zR z).frames) (h2 : 166 ≤ (tw_zR z).locals) (hst : (st.map fun v => v.category).sum ≤ 8) (_ : True) (hT : ∀ y, res = .inr y → tw_To z σ y) : tw_Rf z res (some (Sum.inr x)) σ pc L (.int x0 :: .ref (tw_zB z + 0) :: st) := fun hE => r_callVX (As := [.int x0]) X d (tw_mx_X11_state  (hT x (Option.some.inj hE).symm).1 h) tw_y_X11_state tw_v_X11_state i hi rfl (tw_kd_lt tw_kc0 (by decide)) (tw_E11 tw_kc0) rfl ⟨rfl, rfl, h1, h2⟩ hst rfl (hT x (Option.some.inj hE).symm) hE
def tw_P_X11_checkedSpot (x0 : Int32) (x1 : Int32) (σ : tw_Sg) : Option ((Int32) ⊕ String) :=
tw_jn (fun (a1 : Unit) =>
some (Sum.inr "java/lang/IndexOutOfBoundsException")) (fun (j2 : (Unit) → Option ((Int32) ⊕ String)) =>
if x0 < 0 then (j2 ())
else (if (σ 1 0) ≤ x0 then (j2 ())
else (if x1 < 0 then (j2 ())
else (if x1 < (σ 1 1) then (tw_bd (tw_P_X11_spotAt x0 x1 σ) (fun r3 =>
some (Sum.inl r3)))
else (j2 ())))))
theorem tw_y_X11_checkedSpot : tw_My yX11_checkedSpot cX11_checkedSpot 3 (some .int) 2 := ⟨List.mem_of_getElem? tw_w1045, List.mem_of_getElem? tw_w36, by decide +kernel, by decide +kernel, by decide +kernel⟩
theorem tw_v_X11_checkedSpot : tw_Mv yX11_checkedSpot "TreasureWalk" := ⟨List.mem_of_getElem? tw_w1044, List.mem_of_getElem? tw_w28, rfl⟩
set_option maxRecDepth 100000 in
set_option maxHeartbeats 4000000 in
theorem tw_b_X11_checkedSpot {l : Launch} {B : Nat} {D : tw_G} {C : Nat → ClassId} {S : Nat → Nat} {x0 : Int32} {x1 : Int32} {σ : tw_Sg}  (z : tw_Z) (res : (Int32) ⊕ String) (el : tw_zl z = l) (eB : tw_zB z = B) (eD : tw_zD z = D) (eC : tw_zC z = C) (eS : tw_zS z = S) (hfr : (tw_zR z).frames = 6) (hlo : (tw_zR z).locals = 90) (hcs : tw_zcells z ≤ (tw_zR z).cells ∧ tw_zslots z ≤ (tw_zR z).slots) (X : tw_X z cX11_checkedSpot "TreasureWalk" 3) (hret : (tw_zmeth z).sig.returnType = (some .int)) (hQ : tw_RoX z (fun r => (some (.int r), σ)) res) (hT : ∀ x, res = .inr x → tw_To z σ x) : tw_Rf z res (tw_P_X11_checkedSpot x0 x1 σ) σ 0 (lv_args 0 [.ref (B + 0), .int x0, .int x1]) [] := by
  subst el eB eD eC eS
  show tw_Rf z res _ σ 0 [(0, .ref (tw_zB z + 0)), (1, .int x0), (2, .int x1)] []
  unfold tw_P_X11_checkedSpot
  refine r_iload_n X dX11_checkedSpot_0 rfl 1 rfl ?_
  refine r_jn (α := Unit) (σJ := fun a1 => σ) (pcJ := 30) (LJ := fun a1 => []) (stJ := fun a1 => []) (ok := fun a1 => True) (fun a1 hoka1 => ?_) (fun j2 hj2 => ?_)
  ·
    exact tw_thw1_A X dX11_checkedSpot_30 dX11_checkedSpot_33 dX11_checkedSpot_34 dX11_checkedSpot_37 dX11_checkedSpot_40 rfl tw_l_A_274 hT
  refine r_if_lt X dX11_checkedSpot_1 (tgt := 30) (by decide) ?_ ?_
  ·
    exact tw_Rf.sub [] rfl (hj2 () trivial)
  ·
    refine r_iload_n X dX11_checkedSpot_4 rfl 1 rfl ?_
    refine r_aload_n X dX11_checkedSpot_5 rfl 0 rfl ?_
    refine tw_g11_0 (k := 0) (v := .ref (tw_zB z + 1)) X dX11_checkedSpot_6 _ tw_w431 tw_kc0 rfl ?_
    refine tw_g2_0N (k := 1) (v := .int (σ 1 0)) X dX11_checkedSpot_9 _ tw_w165 tw_kc1 rfl ?_
    refine r_icmp_ge X dX11_checkedSpot_12 (tgt := 30) (by decide) ?_ ?_
    ·
      exact tw_Rf.sub [] rfl (hj2 () trivial)
    ·
      refine r_iload_n X dX11_checkedSpot_15 rfl 2 rfl ?_
      refine r_if_lt X dX11_checkedSpot_16 (tgt := 30) (by decide) ?_ ?_
      ·
        exact tw_Rf.sub [] rfl (hj2 () trivial)
      ·
        refine r_iload_n X dX11_checkedSpot_19 rfl 2 rfl ?_
        refine r_aload_n X dX11_checkedSpot_20 rfl 0 rfl ?_
        refine tw_g11_0 (k := 0) (v := .ref (tw_zB z + 1)) X dX11_checkedSpot_21 _ tw_w431 tw_kc0 rfl ?_
        refine tw_g2_1N (k := 1) (v := .int (σ 1 1)) X dX11_checkedSpot_24 _ tw_w168 tw_kc1 rfl ?_
        refine r_icmp_lt X dX11_checkedSpot_27 (tgt := 41) (by decide) ?_ ?_
        ·
          refine r_iload_n X dX11_checkedSpot_41 rfl 1 rfl ?_
          refine r_iload_n X dX11_checkedSpot_42 rfl 2 rfl ?_
          refine r_bd (fun r3 hr3 => ?_)
          refine tw_c_X11_spotAt X dX11_checkedSpot_43 _ tw_w263  hr3 (tw_le hfr rfl) (tw_le hlo rfl) hcs (Nat.le_of_ble_eq_true rfl) trivial ?_
          exact r_iretX X dX11_checkedSpot_46 hret hQ rfl
        ·
          exact tw_Rf.sub [] rfl (hj2 () trivial)
theorem tw_m_X11_checkedSpot {l : Launch} {B : Nat} {D : tw_G} {C : Nat → ClassId} {S : Nat → Nat} {x0 : Int32} {x1 : Int32} {σ : tw_Sg}  {r : Int32} (h : tw_P_X11_checkedSpot x0 x1 σ = some (.inl r)) : tw_Met l B D C S yX11_checkedSpot cX11_checkedSpot 3 (some .int) ({ frames := 6, cells := 0, slots := 0, locals := 90 } : Room) [.ref (B + 0), .int x0, .int x1] σ (some (.int r)) σ := tw_metOfR (rm := ({ frames := 6, cells := 0, slots := 0, locals := 90 } : Room)) (tw_P_X11_checkedSpot x0 x1 σ) r h (fun r => (some (.int r), σ)) (by decide +kernel) (Nat.le_of_ble_eq_true rfl) (fun z res el eB eD eC eS hfr hlo hcs X hret hQ hT => tw_b_X11_checkedSpot  z res el eB eD eC eS hfr hlo hcs X hret hQ hT)
theorem tw_mx_X11_checkedSpot {l : Launch} {B : Nat} {D : tw_G} {C : Nat → ClassId} {S : Nat → Nat} {x0 : Int32} {x1 : Int32} {σ : tw_Sg}  (hst : l.stackTraces = false) {x : String} (h : tw_P_X11_checkedSpot x0 x1 σ = some (.inr x)) : tw_MetX l B D C S yX11_checkedSpot cX11_checkedSpot 3 (some .int) ({ frames := 6, cells := 1, slots := 6, locals := 90 } : Room) [.ref (B + 0), .int x0, .int x1] σ x := tw_metOfX (rm := ({ frames := 6, cells := 0, slots := 0, locals := 90 } : Room)) hst (tw_P_X11_checkedSpot x0 x1 σ) x h (fun r => (some (.int r), σ)) (by decide +kernel) (Nat.le_of_ble_eq_true rfl) ⟨by decide, by decide⟩ (fun z res el eB eD eC eS hfr hlo hcs X hret hQ hT => tw_b_X11_checkedSpot  z res el eB eD eC eS hfr hlo hcs X hret hQ hT)
theorem tw_c_X11_checkedSpot {ρ : Type} {z : tw_Z} {cc : ByteArray} {own : String} {nL pc : Nat} {σ : tw_Sg} {L : List (Nat × Value)} {st : List Value} {ix : Nat} {x0 : Int32} {x1 : Int32} (X : tw_X z cc own nL) (d : decode cc pc = .ok (.invokevirtual ix, 3)) (i : Nat) (hi : lw_tbl[i]? = some (.methodLink own ix yX11_checkedSpot))  {res : ρ} {E : Option ρ} {r : Int32} (h : tw_P_X11_checkedSpot x0 x1 σ = some (.inl r)) (h1 : 7 ≤ (tw_zR z).frames) (h2 : 112 ≤ (tw_zR z).locals) (hcs : tw_zcells z ≤ (tw_zR z).cells ∧ tw_zslots z ≤ (tw_zR z).slots) (hst : (st.map fun v => v.category).sum ≤ 8) (_ : True) (kk : tw_Rf z res E σ (pc + 3) L (.int r :: st)) : tw_Rf z res E σ pc L (.int x1 :: .int x0 :: .ref (tw_zB z + 0) :: st) := r_callV (As := [.int x0, .int x1]) X d (tw_m_X11_checkedSpot  h) tw_y_X11_checkedSpot tw_v_X11_checkedSpot i hi rfl (tw_kd_lt tw_kc0 (by decide)) (tw_E11 tw_kc0) rfl ⟨rfl, rfl, h1, h2⟩ hcs hst rfl kk
theorem tw_cx_X11_checkedSpot {ρ : Type} {z : tw_Z} {cc : ByteArray} {own : String} {nL pc : Nat} {σ : tw_Sg} {L : List (Nat × Value)} {st : List Value} {ix : Nat} {x0 : Int32} {x1 : Int32} (X : tw_X z cc own nL) (d : decode cc pc = .ok (.invokevirtual ix, 3)) (i : Nat) (hi : lw_tbl[i]? = some (.methodLink own ix yX11_checkedSpot))  {res : ρ ⊕ String} {x : String} (h : tw_P_X11_checkedSpot x0 x1 σ = some (.inr x)) (h1 : 7 ≤ (tw_zR z).frames) (h2 : 112 ≤ (tw_zR z).locals) (hst : (st.map fun v => v.category).sum ≤ 8) (_ : True) (hT : ∀ y, res = .inr y → tw_To z σ y) : tw_Rf z res (some (Sum.inr x)) σ pc L (.int x1 :: .int x0 :: .ref (tw_zB z + 0) :: st) := fun hE => r_callVX (As := [.int x0, .int x1]) X d (tw_mx_X11_checkedSpot  (hT x (Option.some.inj hE).symm).1 h) tw_y_X11_checkedSpot tw_v_X11_checkedSpot i hi rfl (tw_kd_lt tw_kc0 (by decide)) (tw_E11 tw_kc0) rfl ⟨rfl, rfl, h1, h2⟩ hst rfl (hT x (Option.some.inj hE).symm) hE
def tw_P_X11_cell (n : Nat) (x0 : Int32) (x1 : Int32) (σ : tw_Sg) : Option ((Int32 × tw_Sg) ⊕ String) :=
tw_bx (tw_P_X11_checkedSpot x0 x1 σ) (fun r1 =>
tw_lt r1 (fun (v2 : Int32) =>
tw_bd (tw_P_X0_has 2 v2 σ) (fun r3 =>
if ¬ r3 = 0 then (tw_bd (tw_P_X0_has 4 v2 σ) (fun r4 =>
tw_jn (fun (a5 : Int32) =>
tw_lt a5 (fun (v7 : Int32) =>
tw_bd (tw_P_X8_candidates n σ) (fun r8 =>
tw_ck (decide (r8.1 = 140)) (
tw_bd (tw_P_X0_has 140 v2 r8.2) (fun r10 =>
tw_jn (fun (a11 : Int32) =>
some (Sum.inl ((a11 + v7), r8.2))) (fun (j12 : (Int32) → Option ((Int32 × tw_Sg) ⊕ String)) =>
if r10 = 0 then (j12 (1 : Int32))
else (j12 (3 : Int32)))))))) (fun (j6 : (Int32) → Option ((Int32 × tw_Sg) ⊕ String)) =>
if r4 = 0 then (j6 (0 : Int32))
else (j6 (1 : Int32)))))
else (some (Sum.inl ((0 : Int32), σ))))))
theorem tw_y_X11_cell : tw_My yX11_cell cX11_cell 5 (some .int) 2 := ⟨List.mem_of_getElem? tw_w1573, List.mem_of_getElem? tw_w36, by decide +kernel, by decide +kernel, by decide +kernel⟩
theorem tw_v_X11_cell : tw_Mv yX11_cell "TreasureWalk" := ⟨List.mem_of_getElem? tw_w1571, List.mem_of_getElem? tw_w1572, rfl⟩
set_option maxRecDepth 100000 in
set_option maxHeartbeats 4000000 in
theorem tw_b_X11_cell {l : Launch} {B : Nat} {D : tw_G} {C : Nat → ClassId} {S : Nat → Nat} {n : Nat} {x0 : Int32} {x1 : Int32} {σ : tw_Sg}  (z : tw_Z) (res : (Int32 × tw_Sg) ⊕ String) (el : tw_zl z = l) (eB : tw_zB z = B) (eD : tw_zD z = D) (eC : tw_zC z = C) (eS : tw_zS z = S) (hfr : (tw_zR z).frames = 7) (hlo : (tw_zR z).locals = 112) (hcs : tw_zcells z ≤ (tw_zR z).cells ∧ tw_zslots z ≤ (tw_zR z).slots) (X : tw_X z cX11_cell "TreasureWalk" 5) (hret : (tw_zmeth z).sig.returnType = (some .int)) (hQ : tw_RoX z (fun r => (some (.int r.1), r.2)) res) (hT : ∀ x, res = .inr x → tw_To z σ x) : tw_Rf z res (tw_P_X11_cell n x0 x1 σ) σ 0 (lv_args 0 [.ref (B + 0), .int x0, .int x1]) [] := by
  subst el eB eD eC eS
  show tw_Rf z res _ σ 0 [(0, .ref (tw_zB z + 0)), (1, .int x0), (2, .int x1)] []
  unfold tw_P_X11_cell
  refine r_aload_n X dX11_cell_0 rfl 0 rfl ?_
  refine r_iload_n X dX11_cell_1 rfl 1 rfl ?_
  refine r_iload_n X dX11_cell_2 rfl 2 rfl ?_
  refine r_bx (fun r1 hr1 => ?_) (fun r1 hr1 => tw_cx_X11_checkedSpot X dX11_cell_3 _ tw_w1042  hr1 (tw_le hfr rfl) (tw_le hlo rfl) (Nat.le_of_ble_eq_true rfl) trivial hT)
  refine tw_c_X11_checkedSpot X dX11_cell_3 _ tw_w1042  hr1 (tw_le hfr rfl) (tw_le hlo rfl) hcs (Nat.le_of_ble_eq_true rfl) trivial ?_
  refine r_istore_n X dX11_cell_6 rfl (by decide) (LL := fun v2 => [(3, .int v2), (0, .ref (tw_zB z + 0)), (1, .int x0), (2, .int x1)]) (fun _ => rfl) (fun v2 => ?_)
  refine r_aload_n X dX11_cell_7 rfl 1 rfl ?_
  refine tw_g11_0 (k := 0) (v := .ref (tw_zB z + 1)) X dX11_cell_8 _ tw_w431 tw_kc0 rfl ?_
  refine tw_g2_2N (k := 1) (v := .ref (tw_zB z + 2)) X dX11_cell_11 _ tw_w174 tw_kc1 rfl ?_
  refine r_iload_n X dX11_cell_14 rfl 0 rfl ?_
  refine r_bd (fun r3 hr3 => ?_)
  refine tw_c_X0_has X dX11_cell_15 _ tw_w495 tw_kc2 hr3 (tw_le hfr rfl) (tw_le hlo rfl) hcs (Nat.le_of_ble_eq_true rfl) trivial ?_
  refine r_if_ne X dX11_cell_18 (tgt := 23) (by decide) ?_ ?_
  ·
    refine r_aload_n X dX11_cell_23 rfl 1 rfl ?_
    refine tw_g11_0 (k := 0) (v := .ref (tw_zB z + 1)) X dX11_cell_24 _ tw_w431 tw_kc0 rfl ?_
    refine tw_g2_3N (k := 1) (v := .ref (tw_zB z + 4)) X dX11_cell_27 _ tw_w177 tw_kc1 rfl ?_
    refine r_iload_n X dX11_cell_30 rfl 0 rfl ?_
    refine r_bd (fun r4 hr4 => ?_)
    refine tw_c_X0_has X dX11_cell_31 _ tw_w495 tw_kc4 hr4 (tw_le hfr rfl) (tw_le hlo rfl) hcs (Nat.le_of_ble_eq_true rfl) trivial ?_
    refine r_jn (α := Int32) (σJ := fun a5 => σ) (pcJ := 42) (LJ := fun a5 => [(3, .int v2), (0, .ref (tw_zB z + 0))]) (stJ := fun a5 => [.int a5]) (ok := fun a5 => True) (fun a5 hoka5 => ?_) (fun j6 hj6 => ?_)
    ·
      refine r_istore X dX11_cell_42 (by decide) (LL := fun v7 => [(4, .int v7), (3, .int v2), (0, .ref (tw_zB z + 0))]) (fun _ => rfl) (fun v7 => ?_)
      refine r_aload_n X dX11_cell_44 rfl 2 rfl ?_
      refine tw_g11_4 (k := 0) (v := .ref (tw_zB z + 134)) X dX11_cell_45 _ tw_w435 tw_kc0 rfl ?_
      refine r_bd (fun r8 hr8 => ?_)
      refine tw_c_X8_candidates X dX11_cell_48 _ tw_w1563  hr8 (tw_le hfr rfl) (tw_le hlo rfl) hcs (Nat.le_of_ble_eq_true rfl) trivial ?_
      refine r_ck (fun h9 => ?_)
      rw [(of_decide_eq_true h9 : r8.1 = 140)]
      refine r_iload_n X dX11_cell_51 rfl 1 rfl ?_
      refine r_bd (fun r10 hr10 => ?_)
      refine tw_c_X0_has X dX11_cell_52 _ tw_w495 tw_kc140 hr10 (tw_le hfr rfl) (tw_le hlo rfl) hcs (Nat.le_of_ble_eq_true rfl) trivial ?_
      refine r_jn (α := Int32) (σJ := fun a11 => r8.2) (pcJ := 63) (LJ := fun a11 => [(4, .int v7)]) (stJ := fun a11 => [.int a11]) (ok := fun a11 => True) (fun a11 hoka11 => ?_) (fun j12 hj12 => ?_)
      ·
        refine r_iload X dX11_cell_63 0 rfl ?_
        refine r_iadd X dX11_cell_65 ?_
        exact r_iretX X dX11_cell_66 hret hQ rfl
      refine r_if_eq X dX11_cell_55 (tgt := 62) (by decide) ?_ ?_
      ·
        refine r_iconst X dX11_cell_62 (v := (1 : Int32)) (by decide) ?_
        exact tw_Rf.sub [0] rfl (hj12 (1 : Int32) trivial)
      ·
        refine r_iconst X dX11_cell_58 (v := (3 : Int32)) (by decide) ?_
        refine r_goto X dX11_cell_59 (tgt := 63) (by decide) ?_
        exact tw_Rf.sub [0] rfl (hj12 (3 : Int32) trivial)
    refine r_if_eq X dX11_cell_34 (tgt := 41) (by decide) ?_ ?_
    ·
      refine r_iconst X dX11_cell_41 (v := (0 : Int32)) (by decide) ?_
      exact tw_Rf.sub [0, 1] rfl (hj6 (0 : Int32) trivial)
    ·
      refine r_iconst X dX11_cell_37 (v := (1 : Int32)) (by decide) ?_
      refine r_goto X dX11_cell_38 (tgt := 42) (by decide) ?_
      exact tw_Rf.sub [0, 1] rfl (hj6 (1 : Int32) trivial)
  ·
    refine r_iconst X dX11_cell_21 (v := (0 : Int32)) (by decide) ?_
    exact r_iretX X dX11_cell_22 hret hQ rfl
theorem tw_m_X11_cell {l : Launch} {B : Nat} {D : tw_G} {C : Nat → ClassId} {S : Nat → Nat} {n : Nat} {x0 : Int32} {x1 : Int32} {σ : tw_Sg}  {r : Int32 × tw_Sg} (h : tw_P_X11_cell n x0 x1 σ = some (.inl r)) : tw_Met l B D C S yX11_cell cX11_cell 5 (some .int) ({ frames := 7, cells := 0, slots := 0, locals := 112 } : Room) [.ref (B + 0), .int x0, .int x1] σ (some (.int r.1)) r.2 := tw_metOfR (rm := ({ frames := 7, cells := 0, slots := 0, locals := 112 } : Room)) (tw_P_X11_cell n x0 x1 σ) r h (fun r => (some (.int r.1), r.2)) (by decide +kernel) (Nat.le_of_ble_eq_true rfl) (fun z res el eB eD eC eS hfr hlo hcs X hret hQ hT => tw_b_X11_cell  z res el eB eD eC eS hfr hlo hcs X hret hQ hT)
theorem tw_mx_X11_cell {l : Launch} {B : Nat} {D : tw_G} {C : Nat → ClassId} {S : Nat → Nat} {n : Nat} {x0 : Int32} {x1 : Int32} {σ : tw_Sg}  (hst : l.stackTraces = false) {x : String} (h : tw_P_X11_cell n x0 x1 σ = some (.inr x)) : tw_MetX l B D C S yX11_cell cX11_cell 5 (some .int) ({ frames := 7, cells := 1, slots := 6, locals := 112 } : Room) [.ref (B + 0), .int x0, .int x1] σ x := tw_metOfX (rm := ({ frames := 7, cells := 0, slots := 0, locals := 112 } : Room)) hst (tw_P_X11_cell n x0 x1 σ) x h (fun r => (some (.int r.1), r.2)) (by decide +kernel) (Nat.le_of_ble_eq_true rfl) ⟨by decide, by decide⟩ (fun z res el eB eD eC eS hfr hlo hcs X hret hQ hT => tw_b_X11_cell  z res el eB eD eC eS hfr hlo hcs X hret hQ hT)
theorem tw_c_X11_cell {ρ : Type} {z : tw_Z} {cc : ByteArray} {own : String} {nL pc : Nat} {σ : tw_Sg} {L : List (Nat × Value)} {st : List Value} {ix : Nat} {n : Nat} {x0 : Int32} {x1 : Int32} (X : tw_X z cc own nL) (d : decode cc pc = .ok (.invokevirtual ix, 3)) (i : Nat) (hi : lw_tbl[i]? = some (.methodLink own ix yX11_cell))  {res : ρ} {E : Option ρ} {r : Int32 × tw_Sg} (h : tw_P_X11_cell n x0 x1 σ = some (.inl r)) (h1 : 8 ≤ (tw_zR z).frames) (h2 : 136 ≤ (tw_zR z).locals) (hcs : tw_zcells z ≤ (tw_zR z).cells ∧ tw_zslots z ≤ (tw_zR z).slots) (hst : (st.map fun v => v.category).sum ≤ 8) (_ : True) (kk : tw_Rf z res E r.2 (pc + 3) L (.int r.1 :: st)) : tw_Rf z res E σ pc L (.int x1 :: .int x0 :: .ref (tw_zB z + 0) :: st) := r_callV (As := [.int x0, .int x1]) X d (tw_m_X11_cell  h) tw_y_X11_cell tw_v_X11_cell i hi rfl (tw_kd_lt tw_kc0 (by decide)) (tw_E11 tw_kc0) rfl ⟨rfl, rfl, h1, h2⟩ hcs hst rfl kk
theorem tw_cx_X11_cell {ρ : Type} {z : tw_Z} {cc : ByteArray} {own : String} {nL pc : Nat} {σ : tw_Sg} {L : List (Nat × Value)} {st : List Value} {ix : Nat} {n : Nat} {x0 : Int32} {x1 : Int32} (X : tw_X z cc own nL) (d : decode cc pc = .ok (.invokevirtual ix, 3)) (i : Nat) (hi : lw_tbl[i]? = some (.methodLink own ix yX11_cell))  {res : ρ ⊕ String} {x : String} (h : tw_P_X11_cell n x0 x1 σ = some (.inr x)) (h1 : 8 ≤ (tw_zR z).frames) (h2 : 136 ≤ (tw_zR z).locals) (hst : (st.map fun v => v.category).sum ≤ 8) (_ : True) (hT : ∀ y, res = .inr y → tw_To z σ y) : tw_Rf z res (some (Sum.inr x)) σ pc L (.int x1 :: .int x0 :: .ref (tw_zB z + 0) :: st) := fun hE => r_callVX (As := [.int x0, .int x1]) X d (tw_mx_X11_cell  (hT x (Option.some.inj hE).symm).1 h) tw_y_X11_cell tw_v_X11_cell i hi rfl (tw_kd_lt tw_kc0 (by decide)) (tw_E11 tw_kc0) rfl ⟨rfl, rfl, h1, h2⟩ hst rfl (hT x (Option.some.inj hE).symm) hE
def tw_P_X11_pace (x0 : Int32) (x1 : Int32) (x2 : Int32) (σ : tw_Sg) : Option ((Int32) ⊕ String) :=
tw_bx (tw_P_X11_checkedSpot x0 x1 σ) (fun r1 =>
tw_lt r1 (fun (v2 : Int32) =>
tw_jn (fun (a3 : Unit) =>
some (Sum.inr "java/lang/IllegalArgumentException")) (fun (j4 : (Unit) → Option ((Int32) ⊕ String)) =>
if x2 < 0 then (j4 ())
else (if x2 < (8 : Int32) then (tw_bd (tw_P_X10_step v2 x2 σ) (fun r5 =>
tw_bd (tw_P_X2_numberOf 1 r5 σ) (fun r6 =>
some (Sum.inl r6))))
else (j4 ())))))
theorem tw_y_X11_pace : tw_My yX11_pace cX11_pace 5 (some .int) 3 := ⟨List.mem_of_getElem? tw_w1041, List.mem_of_getElem? tw_w36, by decide +kernel, by decide +kernel, by decide +kernel⟩
theorem tw_v_X11_pace : tw_Mv yX11_pace "TreasureWalk" := ⟨List.mem_of_getElem? tw_w1039, List.mem_of_getElem? tw_w1040, rfl⟩
set_option maxRecDepth 100000 in
set_option maxHeartbeats 4000000 in
theorem tw_b_X11_pace {l : Launch} {B : Nat} {D : tw_G} {C : Nat → ClassId} {S : Nat → Nat} {x0 : Int32} {x1 : Int32} {x2 : Int32} {σ : tw_Sg}  (z : tw_Z) (res : (Int32) ⊕ String) (el : tw_zl z = l) (eB : tw_zB z = B) (eD : tw_zD z = D) (eC : tw_zC z = C) (eS : tw_zS z = S) (hfr : (tw_zR z).frames = 7) (hlo : (tw_zR z).locals = 112) (hcs : tw_zcells z ≤ (tw_zR z).cells ∧ tw_zslots z ≤ (tw_zR z).slots) (X : tw_X z cX11_pace "TreasureWalk" 5) (hret : (tw_zmeth z).sig.returnType = (some .int)) (hQ : tw_RoX z (fun r => (some (.int r), σ)) res) (hT : ∀ x, res = .inr x → tw_To z σ x) : tw_Rf z res (tw_P_X11_pace x0 x1 x2 σ) σ 0 (lv_args 0 [.ref (B + 0), .int x0, .int x1, .int x2]) [] := by
  subst el eB eD eC eS
  show tw_Rf z res _ σ 0 [(0, .ref (tw_zB z + 0)), (1, .int x0), (2, .int x1), (3, .int x2)] []
  unfold tw_P_X11_pace
  refine r_aload_n X dX11_pace_0 rfl 0 rfl ?_
  refine r_iload_n X dX11_pace_1 rfl 1 rfl ?_
  refine r_iload_n X dX11_pace_2 rfl 2 rfl ?_
  refine r_bx (fun r1 hr1 => ?_) (fun r1 hr1 => tw_cx_X11_checkedSpot X dX11_pace_3 _ tw_w1042  hr1 (tw_le hfr rfl) (tw_le hlo rfl) (Nat.le_of_ble_eq_true rfl) trivial hT)
  refine tw_c_X11_checkedSpot X dX11_pace_3 _ tw_w1042  hr1 (tw_le hfr rfl) (tw_le hlo rfl) hcs (Nat.le_of_ble_eq_true rfl) trivial ?_
  refine r_istore X dX11_pace_6 (by decide) (LL := fun v2 => [(4, .int v2), (0, .ref (tw_zB z + 0)), (1, .int x0), (2, .int x1), (3, .int x2)]) (fun _ => rfl) (fun v2 => ?_)
  refine r_iload_n X dX11_pace_8 rfl 4 rfl ?_
  refine r_jn (α := Unit) (σJ := fun a3 => σ) (pcJ := 18) (LJ := fun a3 => []) (stJ := fun a3 => []) (ok := fun a3 => True) (fun a3 hoka3 => ?_) (fun j4 hj4 => ?_)
  ·
    exact tw_th0_A X dX11_pace_18 dX11_pace_21 dX11_pace_22 dX11_pace_24 dX11_pace_27 rfl tw_l_A_167 hT
  refine r_if_lt X dX11_pace_9 (tgt := 18) (by decide) ?_ ?_
  ·
    exact tw_Rf.sub [] rfl (hj4 () trivial)
  ·
    refine r_iload_n X dX11_pace_12 rfl 4 rfl ?_
    refine r_bipush X dX11_pace_13 (v := (8 : Int32)) (by decide) ?_
    refine r_icmp_lt X dX11_pace_15 (tgt := 28) (by decide) ?_ ?_
    ·
      refine r_aload_n X dX11_pace_28 rfl 1 rfl ?_
      refine tw_g11_0 (k := 0) (v := .ref (tw_zB z + 1)) X dX11_pace_29 _ tw_w431 tw_kc0 rfl ?_
      refine r_aload_n X dX11_pace_32 rfl 1 rfl ?_
      refine tw_g11_3 (k := 0) (v := .ref (tw_zB z + 33)) X dX11_pace_33 _ tw_w434 tw_kc0 rfl ?_
      refine r_iload X dX11_pace_36 0 rfl ?_
      refine r_iload_n X dX11_pace_38 rfl 4 rfl ?_
      refine r_bd (fun r5 hr5 => ?_)
      refine tw_c_X10_step X dX11_pace_39 _ tw_w1063  hr5 (tw_le hfr rfl) (tw_le hlo rfl) hcs (Nat.le_of_ble_eq_true rfl) trivial ?_
      refine r_bd (fun r6 hr6 => ?_)
      refine tw_c_X2_numberOf X dX11_pace_42 _ tw_w1064 tw_kc1 hr6 (tw_le hfr rfl) (tw_le hlo rfl) hcs (Nat.le_of_ble_eq_true rfl) trivial ?_
      exact r_iretX X dX11_pace_45 hret hQ rfl
    ·
      exact tw_Rf.sub [] rfl (hj4 () trivial)
theorem tw_m_X11_pace {l : Launch} {B : Nat} {D : tw_G} {C : Nat → ClassId} {S : Nat → Nat} {x0 : Int32} {x1 : Int32} {x2 : Int32} {σ : tw_Sg}  {r : Int32} (h : tw_P_X11_pace x0 x1 x2 σ = some (.inl r)) : tw_Met l B D C S yX11_pace cX11_pace 5 (some .int) ({ frames := 7, cells := 0, slots := 0, locals := 112 } : Room) [.ref (B + 0), .int x0, .int x1, .int x2] σ (some (.int r)) σ := tw_metOfR (rm := ({ frames := 7, cells := 0, slots := 0, locals := 112 } : Room)) (tw_P_X11_pace x0 x1 x2 σ) r h (fun r => (some (.int r), σ)) (by decide +kernel) (Nat.le_of_ble_eq_true rfl) (fun z res el eB eD eC eS hfr hlo hcs X hret hQ hT => tw_b_X11_pace  z res el eB eD eC eS hfr hlo hcs X hret hQ hT)
theorem tw_mx_X11_pace {l : Launch} {B : Nat} {D : tw_G} {C : Nat → ClassId} {S : Nat → Nat} {x0 : Int32} {x1 : Int32} {x2 : Int32} {σ : tw_Sg}  (hst : l.stackTraces = false) {x : String} (h : tw_P_X11_pace x0 x1 x2 σ = some (.inr x)) : tw_MetX l B D C S yX11_pace cX11_pace 5 (some .int) ({ frames := 7, cells := 1, slots := 6, locals := 112 } : Room) [.ref (B + 0), .int x0, .int x1, .int x2] σ x := tw_metOfX (rm := ({ frames := 7, cells := 0, slots := 0, locals := 112 } : Room)) hst (tw_P_X11_pace x0 x1 x2 σ) x h (fun r => (some (.int r), σ)) (by decide +kernel) (Nat.le_of_ble_eq_true rfl) ⟨by decide, by decide⟩ (fun z res el eB eD eC eS hfr hlo hcs X hret hQ hT => tw_b_X11_pace  z res el eB eD eC eS hfr hlo hcs X hret hQ hT)
def tw_P_X11_checkClue (x0 : Int32) (σ : tw_Sg) : Option ((Unit) ⊕ String) :=
tw_jn (fun (a1 : Unit) =>
some (Sum.inr "java/lang/IndexOutOfBoundsException")) (fun (j2 : (Unit) → Option ((Unit) ⊕ String)) =>
if x0 < 0 then (j2 ())
else (if x0 < (σ 14 0) then (some (Sum.inl ()))
else (j2 ())))
theorem tw_y_X11_checkClue : tw_My yX11_checkClue cX11_checkClue 2 none 1 := ⟨List.mem_of_getElem? tw_w1082, List.mem_of_getElem? tw_w36, by decide +kernel, by decide +kernel, by decide +kernel⟩
theorem tw_v_X11_checkClue : tw_Mv yX11_checkClue "TreasureWalk" := ⟨List.mem_of_getElem? tw_w1081, List.mem_of_getElem? tw_w29, rfl⟩
set_option maxRecDepth 100000 in
set_option maxHeartbeats 4000000 in
theorem tw_b_X11_checkClue {l : Launch} {B : Nat} {D : tw_G} {C : Nat → ClassId} {S : Nat → Nat} {x0 : Int32} {σ : tw_Sg}  (z : tw_Z) (res : (Unit) ⊕ String) (el : tw_zl z = l) (eB : tw_zB z = B) (eD : tw_zD z = D) (eC : tw_zC z = C) (eS : tw_zS z = S) (hfr : (tw_zR z).frames = 6) (hlo : (tw_zR z).locals = 90) (hcs : tw_zcells z ≤ (tw_zR z).cells ∧ tw_zslots z ≤ (tw_zR z).slots) (X : tw_X z cX11_checkClue "TreasureWalk" 2) (hret : (tw_zmeth z).sig.returnType = none) (hQ : tw_RoX z (fun _ => (none, σ)) res) (hT : ∀ x, res = .inr x → tw_To z σ x) : tw_Rf z res (tw_P_X11_checkClue x0 σ) σ 0 (lv_args 0 [.ref (B + 0), .int x0]) [] := by
  subst el eB eD eC eS
  show tw_Rf z res _ σ 0 [(0, .ref (tw_zB z + 0)), (1, .int x0)] []
  unfold tw_P_X11_checkClue
  refine r_iload_n X dX11_checkClue_0 rfl 1 rfl ?_
  refine r_jn (α := Unit) (σJ := fun a1 => σ) (pcJ := 18) (LJ := fun a1 => []) (stJ := fun a1 => []) (ok := fun a1 => True) (fun a1 hoka1 => ?_) (fun j2 hj2 => ?_)
  ·
    exact tw_thw1_A X dX11_checkClue_18 dX11_checkClue_21 dX11_checkClue_22 dX11_checkClue_25 dX11_checkClue_28 rfl tw_l_A_276 hT
  refine r_if_lt X dX11_checkClue_1 (tgt := 18) (by decide) ?_ ?_
  ·
    exact tw_Rf.sub [] rfl (hj2 () trivial)
  ·
    refine r_iload_n X dX11_checkClue_4 rfl 1 rfl ?_
    refine r_aload_n X dX11_checkClue_5 rfl 0 rfl ?_
    refine tw_g11_0 (k := 0) (v := .ref (tw_zB z + 1)) X dX11_checkClue_6 _ tw_w431 tw_kc0 rfl ?_
    refine tw_g2_9N (k := 1) (v := .ref (tw_zB z + 14)) X dX11_checkClue_9 _ tw_w195 tw_kc1 rfl ?_
    refine tw_g1_0N (k := 14) (v := .int (σ 14 0)) X dX11_checkClue_12 _ tw_w116 tw_kc14 rfl ?_
    refine r_icmp_lt X dX11_checkClue_15 (tgt := 29) (by decide) ?_ ?_
    ·
      exact r_vretX X dX11_checkClue_29 hret hQ rfl
    ·
      exact tw_Rf.sub [] rfl (hj2 () trivial)
theorem tw_m_X11_checkClue {l : Launch} {B : Nat} {D : tw_G} {C : Nat → ClassId} {S : Nat → Nat} {x0 : Int32} {σ : tw_Sg}  {r : Unit} (h : tw_P_X11_checkClue x0 σ = some (.inl r)) : tw_Met l B D C S yX11_checkClue cX11_checkClue 2 none ({ frames := 6, cells := 0, slots := 0, locals := 90 } : Room) [.ref (B + 0), .int x0] σ (none) σ := tw_metOfR (rm := ({ frames := 6, cells := 0, slots := 0, locals := 90 } : Room)) (tw_P_X11_checkClue x0 σ) r h (fun _ => (none, σ)) (by decide +kernel) (Nat.le_of_ble_eq_true rfl) (fun z res el eB eD eC eS hfr hlo hcs X hret hQ hT => tw_b_X11_checkClue  z res el eB eD eC eS hfr hlo hcs X hret hQ hT)
theorem tw_mx_X11_checkClue {l : Launch} {B : Nat} {D : tw_G} {C : Nat → ClassId} {S : Nat → Nat} {x0 : Int32} {σ : tw_Sg}  (hst : l.stackTraces = false) {x : String} (h : tw_P_X11_checkClue x0 σ = some (.inr x)) : tw_MetX l B D C S yX11_checkClue cX11_checkClue 2 none ({ frames := 6, cells := 1, slots := 6, locals := 90 } : Room) [.ref (B + 0), .int x0] σ x := tw_metOfX (rm := ({ frames := 6, cells := 0, slots := 0, locals := 90 } : Room)) hst (tw_P_X11_checkClue x0 σ) x h (fun _ => (none, σ)) (by decide +kernel) (Nat.le_of_ble_eq_true rfl) ⟨by decide, by decide⟩ (fun z res el eB eD eC eS hfr hlo hcs X hret hQ hT => tw_b_X11_checkClue  z res el eB eD eC eS hfr hlo hcs X hret hQ hT)
theorem tw_c_X11_checkClue {ρ : Type} {z : tw_Z} {cc : ByteArray} {own : String} {nL pc : Nat} {σ : tw_Sg} {L : List (Nat × Value)} {st : List Value} {ix : Nat} {x0 : Int32} (X : tw_X z cc own nL) (d : decode cc pc = .ok (.invokevirtual ix, 3)) (i : Nat) (hi : lw_tbl[i]? = some (.methodLink own ix yX11_checkClue))  {res : ρ} {E : Option ρ} {r : Unit} (h : tw_P_X11_checkClue x0 σ = some (.inl r)) (h1 : 7 ≤ (tw_zR z).frames) (h2 : 111 ≤ (tw_zR z).locals) (hcs : tw_zcells z ≤ (tw_zR z).cells ∧ tw_zslots z ≤ (tw_zR z).slots) (hst : (st.map fun v => v.category).sum ≤ 8) (_ : True) (kk : tw_Rf z res E σ (pc + 3) L (st)) : tw_Rf z res E σ pc L (.int x0 :: .ref (tw_zB z + 0) :: st) := r_callV (As := [.int x0]) X d (tw_m_X11_checkClue  h) tw_y_X11_checkClue tw_v_X11_checkClue i hi rfl (tw_kd_lt tw_kc0 (by decide)) (tw_E11 tw_kc0) rfl ⟨rfl, rfl, h1, h2⟩ hcs hst rfl kk
theorem tw_cx_X11_checkClue {ρ : Type} {z : tw_Z} {cc : ByteArray} {own : String} {nL pc : Nat} {σ : tw_Sg} {L : List (Nat × Value)} {st : List Value} {ix : Nat} {x0 : Int32} (X : tw_X z cc own nL) (d : decode cc pc = .ok (.invokevirtual ix, 3)) (i : Nat) (hi : lw_tbl[i]? = some (.methodLink own ix yX11_checkClue))  {res : ρ ⊕ String} {x : String} (h : tw_P_X11_checkClue x0 σ = some (.inr x)) (h1 : 7 ≤ (tw_zR z).frames) (h2 : 111 ≤ (tw_zR z).locals) (hst : (st.map fun v => v.category).sum ≤ 8) (_ : True) (hT : ∀ y, res = .inr y → tw_To z σ y) : tw_Rf z res (some (Sum.inr x)) σ pc L (.int x0 :: .ref (tw_zB z + 0) :: st) := fun hE => r_callVX (As := [.int x0]) X d (tw_mx_X11_checkClue  (hT x (Option.some.inj hE).symm).1 h) tw_y_X11_checkClue tw_v_X11_checkClue i hi rfl (tw_kd_lt tw_kc0 (by decide)) (tw_E11 tw_kc0) rfl ⟨rfl, rfl, h1, h2⟩ hst rfl (hT x (Option.some.inj hE).symm) hE
def tw_P_X11_reached (n : Nat) (x0 : Int32) (x1 : Int32) (σ : tw_Sg) : Option ((Int32) ⊕ String) :=
tw_bx (tw_P_X11_checkClue x0 σ) (fun r1 =>
tw_jn (fun (a2 : Unit) =>
some (Sum.inr "java/lang/IllegalArgumentException")) (fun (j3 : (Unit) → Option ((Int32) ⊕ String)) =>
if x1 < 0 then (j3 ())
else (tw_bd (tw_P_X7_get 21 x0 σ) (fun r4 =>
if x1 ≤ r4 then (tw_bd (tw_P_X10_layer x0 x1 σ) (fun r5 =>
tw_ck (decide (tw_kd r5 = 0)) (
tw_bd (tw_P_X0_count n r5 σ) (fun r7 =>
some (Sum.inl r7)))))
else (j3 ())))))
theorem tw_y_X11_reached : tw_My yX11_reached cX11_reached 3 (some .int) 2 := ⟨List.mem_of_getElem? tw_w1578, List.mem_of_getElem? tw_w36, by decide +kernel, by decide +kernel, by decide +kernel⟩
theorem tw_v_X11_reached : tw_Mv yX11_reached "TreasureWalk" := ⟨List.mem_of_getElem? tw_w1576, List.mem_of_getElem? tw_w1577, rfl⟩
set_option maxRecDepth 100000 in
set_option maxHeartbeats 4000000 in
theorem tw_b_X11_reached {l : Launch} {B : Nat} {D : tw_G} {C : Nat → ClassId} {S : Nat → Nat} {n : Nat} {x0 : Int32} {x1 : Int32} {σ : tw_Sg}  (z : tw_Z) (res : (Int32) ⊕ String) (el : tw_zl z = l) (eB : tw_zB z = B) (eD : tw_zD z = D) (eC : tw_zC z = C) (eS : tw_zS z = S) (hfr : (tw_zR z).frames = 7) (hlo : (tw_zR z).locals = 111) (hcs : tw_zcells z ≤ (tw_zR z).cells ∧ tw_zslots z ≤ (tw_zR z).slots) (X : tw_X z cX11_reached "TreasureWalk" 3) (hret : (tw_zmeth z).sig.returnType = (some .int)) (hQ : tw_RoX z (fun r => (some (.int r), σ)) res) (hT : ∀ x, res = .inr x → tw_To z σ x) : tw_Rf z res (tw_P_X11_reached n x0 x1 σ) σ 0 (lv_args 0 [.ref (B + 0), .int x0, .int x1]) [] := by
  subst el eB eD eC eS
  show tw_Rf z res _ σ 0 [(0, .ref (tw_zB z + 0)), (1, .int x0), (2, .int x1)] []
  unfold tw_P_X11_reached
  refine r_aload_n X dX11_reached_0 rfl 0 rfl ?_
  refine r_iload_n X dX11_reached_1 rfl 1 rfl ?_
  refine r_bx (fun r1 hr1 => ?_) (fun r1 hr1 => tw_cx_X11_checkClue X dX11_reached_2 _ tw_w1079  hr1 (tw_le hfr rfl) (tw_le hlo rfl) (Nat.le_of_ble_eq_true rfl) trivial hT)
  refine tw_c_X11_checkClue X dX11_reached_2 _ tw_w1079  hr1 (tw_le hfr rfl) (tw_le hlo rfl) hcs (Nat.le_of_ble_eq_true rfl) trivial ?_
  refine r_iload_n X dX11_reached_5 rfl 2 rfl ?_
  refine r_jn (α := Unit) (σJ := fun a2 => σ) (pcJ := 27) (LJ := fun a2 => []) (stJ := fun a2 => []) (ok := fun a2 => True) (fun a2 hoka2 => ?_) (fun j3 hj3 => ?_)
  ·
    exact tw_th0_A X dX11_reached_27 dX11_reached_30 dX11_reached_31 dX11_reached_33 dX11_reached_36 rfl tw_l_A_184 hT
  refine r_if_lt X dX11_reached_6 (tgt := 27) (by decide) ?_ ?_
  ·
    exact tw_Rf.sub [] rfl (hj3 () trivial)
  ·
    refine r_iload_n X dX11_reached_9 rfl 2 rfl ?_
    refine r_aload_n X dX11_reached_10 rfl 0 rfl ?_
    refine tw_g11_0 (k := 0) (v := .ref (tw_zB z + 1)) X dX11_reached_11 _ tw_w431 tw_kc0 rfl ?_
    refine tw_g2_9N (k := 1) (v := .ref (tw_zB z + 14)) X dX11_reached_14 _ tw_w195 tw_kc1 rfl ?_
    refine tw_g1_4N (k := 14) (v := .ref (tw_zB z + 21)) X dX11_reached_17 _ tw_w126 tw_kc14 rfl ?_
    refine r_iload_n X dX11_reached_20 rfl 1 rfl ?_
    refine r_bd (fun r4 hr4 => ?_)
    refine tw_c_X7_get X dX11_reached_21 _ tw_w1084 tw_kc21 hr4 (tw_le hfr rfl) (tw_le hlo rfl) hcs (Nat.le_of_ble_eq_true rfl) trivial ?_
    refine r_icmp_le X dX11_reached_24 (tgt := 37) (by decide) ?_ ?_
    ·
      refine r_aload_n X dX11_reached_37 rfl 0 rfl ?_
      refine tw_g11_3 (k := 0) (v := .ref (tw_zB z + 33)) X dX11_reached_38 _ tw_w434 tw_kc0 rfl ?_
      refine r_iload_n X dX11_reached_41 rfl 1 rfl ?_
      refine r_iload_n X dX11_reached_42 rfl 2 rfl ?_
      refine r_bd (fun r5 hr5 => ?_)
      refine tw_c_X10_layer X dX11_reached_43 _ tw_w1580  hr5 (tw_le hfr rfl) (tw_le hlo rfl) hcs (Nat.le_of_ble_eq_true rfl) trivial ?_
      refine r_ck (fun h6 => ?_)
      refine r_bd (fun r7 hr7 => ?_)
      refine tw_c_X0_count X dX11_reached_46 _ tw_w1216 (of_decide_eq_true h6) hr7 (tw_le hfr rfl) (tw_le hlo rfl) hcs (Nat.le_of_ble_eq_true rfl) trivial ?_
      exact r_iretX X dX11_reached_49 hret hQ rfl
    ·
      exact tw_Rf.sub [] rfl (hj3 () trivial)
theorem tw_m_X11_reached {l : Launch} {B : Nat} {D : tw_G} {C : Nat → ClassId} {S : Nat → Nat} {n : Nat} {x0 : Int32} {x1 : Int32} {σ : tw_Sg}  {r : Int32} (h : tw_P_X11_reached n x0 x1 σ = some (.inl r)) : tw_Met l B D C S yX11_reached cX11_reached 3 (some .int) ({ frames := 7, cells := 0, slots := 0, locals := 111 } : Room) [.ref (B + 0), .int x0, .int x1] σ (some (.int r)) σ := tw_metOfR (rm := ({ frames := 7, cells := 0, slots := 0, locals := 111 } : Room)) (tw_P_X11_reached n x0 x1 σ) r h (fun r => (some (.int r), σ)) (by decide +kernel) (Nat.le_of_ble_eq_true rfl) (fun z res el eB eD eC eS hfr hlo hcs X hret hQ hT => tw_b_X11_reached  z res el eB eD eC eS hfr hlo hcs X hret hQ hT)
theorem tw_mx_X11_reached {l : Launch} {B : Nat} {D : tw_G} {C : Nat → ClassId} {S : Nat → Nat} {n : Nat} {x0 : Int32} {x1 : Int32} {σ : tw_Sg}  (hst : l.stackTraces = false) {x : String} (h : tw_P_X11_reached n x0 x1 σ = some (.inr x)) : tw_MetX l B D C S yX11_reached cX11_reached 3 (some .int) ({ frames := 7, cells := 1, slots := 6, locals := 111 } : Room) [.ref (B + 0), .int x0, .int x1] σ x := tw_metOfX (rm := ({ frames := 7, cells := 0, slots := 0, locals := 111 } : Room)) hst (tw_P_X11_reached n x0 x1 σ) x h (fun r => (some (.int r), σ)) (by decide +kernel) (Nat.le_of_ble_eq_true rfl) ⟨by decide, by decide⟩ (fun z res el eB eD eC eS hfr hlo hcs X hret hQ hT => tw_b_X11_reached  z res el eB eD eC eS hfr hlo hcs X hret hQ hT)
theorem tw_c_X11_reached {ρ : Type} {z : tw_Z} {cc : ByteArray} {own : String} {nL pc : Nat} {σ : tw_Sg} {L : List (Nat × Value)} {st : List Value} {ix : Nat} {n : Nat} {x0 : Int32} {x1 : Int32} (X : tw_X z cc own nL) (d : decode cc pc = .ok (.invokevirtual ix, 3)) (i : Nat) (hi : lw_tbl[i]? = some (.methodLink own ix yX11_reached))  {res : ρ} {E : Option ρ} {r : Int32} (h : tw_P_X11_reached n x0 x1 σ = some (.inl r)) (h1 : 8 ≤ (tw_zR z).frames) (h2 : 133 ≤ (tw_zR z).locals) (hcs : tw_zcells z ≤ (tw_zR z).cells ∧ tw_zslots z ≤ (tw_zR z).slots) (hst : (st.map fun v => v.category).sum ≤ 8) (_ : True) (kk : tw_Rf z res E σ (pc + 3) L (.int r :: st)) : tw_Rf z res E σ pc L (.int x1 :: .int x0 :: .ref (tw_zB z + 0) :: st) := r_callV (As := [.int x0, .int x1]) X d (tw_m_X11_reached  h) tw_y_X11_reached tw_v_X11_reached i hi rfl (tw_kd_lt tw_kc0 (by decide)) (tw_E11 tw_kc0) rfl ⟨rfl, rfl, h1, h2⟩ hcs hst rfl kk
theorem tw_cx_X11_reached {ρ : Type} {z : tw_Z} {cc : ByteArray} {own : String} {nL pc : Nat} {σ : tw_Sg} {L : List (Nat × Value)} {st : List Value} {ix : Nat} {n : Nat} {x0 : Int32} {x1 : Int32} (X : tw_X z cc own nL) (d : decode cc pc = .ok (.invokevirtual ix, 3)) (i : Nat) (hi : lw_tbl[i]? = some (.methodLink own ix yX11_reached))  {res : ρ ⊕ String} {x : String} (h : tw_P_X11_reached n x0 x1 σ = some (.inr x)) (h1 : 8 ≤ (tw_zR z).frames) (h2 : 133 ≤ (tw_zR z).locals) (hst : (st.map fun v => v.category).sum ≤ 8) (_ : True) (hT : ∀ y, res = .inr y → tw_To z σ y) : tw_Rf z res (some (Sum.inr x)) σ pc L (.int x1 :: .int x0 :: .ref (tw_zB z + 0) :: st) := fun hE => r_callVX (As := [.int x0, .int x1]) X d (tw_mx_X11_reached  (hT x (Option.some.inj hE).symm).1 h) tw_y_X11_reached tw_v_X11_reached i hi rfl (tw_kd_lt tw_kc0 (by decide)) (tw_E11 tw_kc0) rfl ⟨rfl, rfl, h1, h2⟩ hst rfl (hT x (Option.some.inj hE).symm) hE
def tw_P_X11_why (n : Nat) (x0 : Int32) (x1 : Int32) (σ : tw_Sg) : Option ((Int32) ⊕ String) :=
tw_bx (tw_P_X11_checkedSpot x0 x1 σ) (fun r1 =>
tw_lt r1 (fun (v2 : Int32) =>
tw_bd (tw_P_X0_has 2 v2 σ) (fun r3 =>
tw_jn (fun (a4 : Int32) =>
some (Sum.inl a4)) (fun (j5 : (Int32) → Option ((Int32) ⊕ String)) =>
if r3 = 0 then (j5 (-1 : Int32))
else (tw_bd (tw_P_X8_clueAgainst n v2 σ) (fun r6 =>
j5 r6))))))
theorem tw_y_X11_why : tw_My yX11_why cX11_why 4 (some .int) 2 := ⟨List.mem_of_getElem? tw_w1615, List.mem_of_getElem? tw_w36, by decide +kernel, by decide +kernel, by decide +kernel⟩
theorem tw_v_X11_why : tw_Mv yX11_why "TreasureWalk" := ⟨List.mem_of_getElem? tw_w1613, List.mem_of_getElem? tw_w1614, rfl⟩
set_option maxRecDepth 100000 in
set_option maxHeartbeats 4000000 in
theorem tw_b_X11_why {l : Launch} {B : Nat} {D : tw_G} {C : Nat → ClassId} {S : Nat → Nat} {n : Nat} {x0 : Int32} {x1 : Int32} {σ : tw_Sg}  (z : tw_Z) (res : (Int32) ⊕ String) (el : tw_zl z = l) (eB : tw_zB z = B) (eD : tw_zD z = D) (eC : tw_zC z = C) (eS : tw_zS z = S) (hfr : (tw_zR z).frames = 7) (hlo : (tw_zR z).locals = 112) (hcs : tw_zcells z ≤ (tw_zR z).cells ∧ tw_zslots z ≤ (tw_zR z).slots) (X : tw_X z cX11_why "TreasureWalk" 4) (hret : (tw_zmeth z).sig.returnType = (some .int)) (hQ : tw_RoX z (fun r => (some (.int r), σ)) res) (hT : ∀ x, res = .inr x → tw_To z σ x) : tw_Rf z res (tw_P_X11_why n x0 x1 σ) σ 0 (lv_args 0 [.ref (B + 0), .int x0, .int x1]) [] := by
  subst el eB eD eC eS
  show tw_Rf z res _ σ 0 [(0, .ref (tw_zB z + 0)), (1, .int x0), (2, .int x1)] []
  unfold tw_P_X11_why
  refine r_aload_n X dX11_why_0 rfl 0 rfl ?_
  refine r_iload_n X dX11_why_1 rfl 1 rfl ?_
  refine r_iload_n X dX11_why_2 rfl 2 rfl ?_
  refine r_bx (fun r1 hr1 => ?_) (fun r1 hr1 => tw_cx_X11_checkedSpot X dX11_why_3 _ tw_w1042  hr1 (tw_le hfr rfl) (tw_le hlo rfl) (Nat.le_of_ble_eq_true rfl) trivial hT)
  refine tw_c_X11_checkedSpot X dX11_why_3 _ tw_w1042  hr1 (tw_le hfr rfl) (tw_le hlo rfl) hcs (Nat.le_of_ble_eq_true rfl) trivial ?_
  refine r_istore_n X dX11_why_6 rfl (by decide) (LL := fun v2 => [(3, .int v2), (0, .ref (tw_zB z + 0)), (1, .int x0), (2, .int x1)]) (fun _ => rfl) (fun v2 => ?_)
  refine r_aload_n X dX11_why_7 rfl 1 rfl ?_
  refine tw_g11_0 (k := 0) (v := .ref (tw_zB z + 1)) X dX11_why_8 _ tw_w431 tw_kc0 rfl ?_
  refine tw_g2_2N (k := 1) (v := .ref (tw_zB z + 2)) X dX11_why_11 _ tw_w174 tw_kc1 rfl ?_
  refine r_iload_n X dX11_why_14 rfl 0 rfl ?_
  refine r_bd (fun r3 hr3 => ?_)
  refine tw_c_X0_has X dX11_why_15 _ tw_w495 tw_kc2 hr3 (tw_le hfr rfl) (tw_le hlo rfl) hcs (Nat.le_of_ble_eq_true rfl) trivial ?_
  refine r_jn (α := Int32) (σJ := fun a4 => σ) (pcJ := 33) (LJ := fun a4 => []) (stJ := fun a4 => [.int a4]) (ok := fun a4 => True) (fun a4 hoka4 => ?_) (fun j5 hj5 => ?_)
  ·
    exact r_iretX X dX11_why_33 hret hQ rfl
  refine r_if_eq X dX11_why_18 (tgt := 32) (by decide) ?_ ?_
  ·
    refine r_iconst X dX11_why_32 (v := (-1 : Int32)) (by decide) ?_
    exact tw_Rf.sub [] rfl (hj5 (-1 : Int32) trivial)
  ·
    refine r_aload_n X dX11_why_21 rfl 1 rfl ?_
    refine tw_g11_4 (k := 0) (v := .ref (tw_zB z + 134)) X dX11_why_22 _ tw_w435 tw_kc0 rfl ?_
    refine r_iload_n X dX11_why_25 rfl 0 rfl ?_
    refine r_bd (fun r6 hr6 => ?_)
    refine tw_c_X8_clueAgainst X dX11_why_26 _ tw_w1616  hr6 (tw_le hfr rfl) (tw_le hlo rfl) hcs (Nat.le_of_ble_eq_true rfl) trivial ?_
    refine r_goto X dX11_why_29 (tgt := 33) (by decide) ?_
    exact tw_Rf.sub [] rfl (hj5 r6 trivial)
theorem tw_m_X11_why {l : Launch} {B : Nat} {D : tw_G} {C : Nat → ClassId} {S : Nat → Nat} {n : Nat} {x0 : Int32} {x1 : Int32} {σ : tw_Sg}  {r : Int32} (h : tw_P_X11_why n x0 x1 σ = some (.inl r)) : tw_Met l B D C S yX11_why cX11_why 4 (some .int) ({ frames := 7, cells := 0, slots := 0, locals := 112 } : Room) [.ref (B + 0), .int x0, .int x1] σ (some (.int r)) σ := tw_metOfR (rm := ({ frames := 7, cells := 0, slots := 0, locals := 112 } : Room)) (tw_P_X11_why n x0 x1 σ) r h (fun r => (some (.int r), σ)) (by decide +kernel) (Nat.le_of_ble_eq_true rfl) (fun z res el eB eD eC eS hfr hlo hcs X hret hQ hT => tw_b_X11_why  z res el eB eD eC eS hfr hlo hcs X hret hQ hT)
theorem tw_mx_X11_why {l : Launch} {B : Nat} {D : tw_G} {C : Nat → ClassId} {S : Nat → Nat} {n : Nat} {x0 : Int32} {x1 : Int32} {σ : tw_Sg}  (hst : l.stackTraces = false) {x : String} (h : tw_P_X11_why n x0 x1 σ = some (.inr x)) : tw_MetX l B D C S yX11_why cX11_why 4 (some .int) ({ frames := 7, cells := 1, slots := 6, locals := 112 } : Room) [.ref (B + 0), .int x0, .int x1] σ x := tw_metOfX (rm := ({ frames := 7, cells := 0, slots := 0, locals := 112 } : Room)) hst (tw_P_X11_why n x0 x1 σ) x h (fun r => (some (.int r), σ)) (by decide +kernel) (Nat.le_of_ble_eq_true rfl) ⟨by decide, by decide⟩ (fun z res el eB eD eC eS hfr hlo hcs X hret hQ hT => tw_b_X11_why  z res el eB eD eC eS hfr hlo hcs X hret hQ hT)
def tw_P_X11_walk (n : Nat) (x0 : Int32) (x1 : Int32) (x2 : Int32) (x3 : Int32) (σ : tw_Sg) : Option ((Int32 × tw_Sg) ⊕ String) :=
tw_bx (tw_P_X11_checkClue x0 σ) (fun r1 =>
tw_bx (tw_P_X11_checkedSpot x1 x2 σ) (fun r2 =>
tw_lt r2 (fun (v3 : Int32) =>
tw_jn (fun (a4 : Unit) =>
some (Sum.inr "java/lang/IndexOutOfBoundsException")) (fun (j5 : (Unit) → Option ((Int32 × tw_Sg) ⊕ String)) =>
if x3 < 0 then (j5 ())
else (tw_bd (tw_P_X7_get 21 x0 σ) (fun r6 =>
if x3 < r6 then (tw_bd (tw_P_X10_region x0 σ) (fun r7 =>
tw_ck (decide (tw_kd r7 = 0)) (
tw_bd (tw_P_X0_has r7 v3 σ) (fun r9 =>
if ¬ r9 = 0 then (tw_bd (tw_P_X10_firstWalkPaces n x0 v3 x3 σ) (fun r10 =>
some (Sum.inl (r10.1, r10.2))))
else (some (Sum.inr "java/util/NoSuchElementException"))))))
else (j5 ())))))))
theorem tw_y_X11_walk : tw_My yX11_walk cX11_walk 6 (some .int) 4 := ⟨List.mem_of_getElem? tw_w1078, List.mem_of_getElem? tw_w36, by decide +kernel, by decide +kernel, by decide +kernel⟩
theorem tw_v_X11_walk : tw_Mv yX11_walk "TreasureWalk" := ⟨List.mem_of_getElem? tw_w1076, List.mem_of_getElem? tw_w1077, rfl⟩
set_option maxRecDepth 100000 in
set_option maxHeartbeats 4000000 in
theorem tw_b_X11_walk {l : Launch} {B : Nat} {D : tw_G} {C : Nat → ClassId} {S : Nat → Nat} {n : Nat} {x0 : Int32} {x1 : Int32} {x2 : Int32} {x3 : Int32} {σ : tw_Sg}  (z : tw_Z) (res : (Int32 × tw_Sg) ⊕ String) (el : tw_zl z = l) (eB : tw_zB z = B) (eD : tw_zD z = D) (eC : tw_zC z = C) (eS : tw_zS z = S) (hfr : (tw_zR z).frames = 7) (hlo : (tw_zR z).locals = 147) (hcs : tw_zcells z ≤ (tw_zR z).cells ∧ tw_zslots z ≤ (tw_zR z).slots) (X : tw_X z cX11_walk "TreasureWalk" 6) (hret : (tw_zmeth z).sig.returnType = (some .int)) (hQ : tw_RoX z (fun r => (some (.int r.1), r.2)) res) (hT : ∀ x, res = .inr x → tw_To z σ x) : tw_Rf z res (tw_P_X11_walk n x0 x1 x2 x3 σ) σ 0 (lv_args 0 [.ref (B + 0), .int x0, .int x1, .int x2, .int x3]) [] := by
  subst el eB eD eC eS
  show tw_Rf z res _ σ 0 [(0, .ref (tw_zB z + 0)), (1, .int x0), (2, .int x1), (3, .int x2), (4, .int x3)] []
  unfold tw_P_X11_walk
  refine r_aload_n X dX11_walk_0 rfl 0 rfl ?_
  refine r_iload_n X dX11_walk_1 rfl 1 rfl ?_
  refine r_bx (fun r1 hr1 => ?_) (fun r1 hr1 => tw_cx_X11_checkClue X dX11_walk_2 _ tw_w1079  hr1 (tw_le hfr rfl) (tw_le hlo rfl) (Nat.le_of_ble_eq_true rfl) trivial hT)
  refine tw_c_X11_checkClue X dX11_walk_2 _ tw_w1079  hr1 (tw_le hfr rfl) (tw_le hlo rfl) hcs (Nat.le_of_ble_eq_true rfl) trivial ?_
  refine r_aload_n X dX11_walk_5 rfl 0 rfl ?_
  refine r_iload_n X dX11_walk_6 rfl 2 rfl ?_
  refine r_iload_n X dX11_walk_7 rfl 3 rfl ?_
  refine r_bx (fun r2 hr2 => ?_) (fun r2 hr2 => tw_cx_X11_checkedSpot X dX11_walk_8 _ tw_w1042  hr2 (tw_le hfr rfl) (tw_le hlo rfl) (Nat.le_of_ble_eq_true rfl) trivial hT)
  refine tw_c_X11_checkedSpot X dX11_walk_8 _ tw_w1042  hr2 (tw_le hfr rfl) (tw_le hlo rfl) hcs (Nat.le_of_ble_eq_true rfl) trivial ?_
  refine r_istore X dX11_walk_11 (by decide) (LL := fun v3 => [(5, .int v3), (0, .ref (tw_zB z + 0)), (1, .int x0), (2, .int x1), (3, .int x2), (4, .int x3)]) (fun _ => rfl) (fun v3 => ?_)
  refine r_iload X dX11_walk_13 5 rfl ?_
  refine r_jn (α := Unit) (σJ := fun a4 => σ) (pcJ := 37) (LJ := fun a4 => []) (stJ := fun a4 => []) (ok := fun a4 => True) (fun a4 hoka4 => ?_) (fun j5 hj5 => ?_)
  ·
    exact tw_th1_A X dX11_walk_37 dX11_walk_40 dX11_walk_41 dX11_walk_43 dX11_walk_46 rfl tw_l_A_199 hT
  refine r_if_lt X dX11_walk_15 (tgt := 37) (by decide) ?_ ?_
  ·
    exact tw_Rf.sub [] rfl (hj5 () trivial)
  ·
    refine r_iload X dX11_walk_18 5 rfl ?_
    refine r_aload_n X dX11_walk_20 rfl 1 rfl ?_
    refine tw_g11_0 (k := 0) (v := .ref (tw_zB z + 1)) X dX11_walk_21 _ tw_w431 tw_kc0 rfl ?_
    refine tw_g2_9N (k := 1) (v := .ref (tw_zB z + 14)) X dX11_walk_24 _ tw_w195 tw_kc1 rfl ?_
    refine tw_g1_4N (k := 14) (v := .ref (tw_zB z + 21)) X dX11_walk_27 _ tw_w126 tw_kc14 rfl ?_
    refine r_iload_n X dX11_walk_30 rfl 2 rfl ?_
    refine r_bd (fun r6 hr6 => ?_)
    refine tw_c_X7_get X dX11_walk_31 _ tw_w1084 tw_kc21 hr6 (tw_le hfr rfl) (tw_le hlo rfl) hcs (Nat.le_of_ble_eq_true rfl) trivial ?_
    refine r_icmp_lt X dX11_walk_34 (tgt := 47) (by decide) ?_ ?_
    ·
      refine r_aload_n X dX11_walk_47 rfl 1 rfl ?_
      refine tw_g11_3 (k := 0) (v := .ref (tw_zB z + 33)) X dX11_walk_48 _ tw_w434 tw_kc0 rfl ?_
      refine r_iload_n X dX11_walk_51 rfl 2 rfl ?_
      refine r_bd (fun r7 hr7 => ?_)
      refine tw_c_X10_region X dX11_walk_52 _ tw_w1086  hr7 (tw_le hfr rfl) (tw_le hlo rfl) hcs (Nat.le_of_ble_eq_true rfl) trivial ?_
      refine r_ck (fun h8 => ?_)
      refine r_iload X dX11_walk_55 0 rfl ?_
      refine r_bd (fun r9 hr9 => ?_)
      refine tw_c_X0_has X dX11_walk_57 _ tw_w495 (of_decide_eq_true h8) hr9 (tw_le hfr rfl) (tw_le hlo rfl) hcs (Nat.le_of_ble_eq_true rfl) trivial ?_
      refine r_if_ne X dX11_walk_60 (tgt := 73) (by decide) ?_ ?_
      ·
        refine r_aload_n X dX11_walk_73 rfl 1 rfl ?_
        refine tw_g11_3 (k := 0) (v := .ref (tw_zB z + 33)) X dX11_walk_74 _ tw_w434 tw_kc0 rfl ?_
        refine r_iload_n X dX11_walk_77 rfl 2 rfl ?_
        refine r_iload X dX11_walk_78 0 rfl ?_
        refine r_iload X dX11_walk_80 5 rfl ?_
        refine r_bd (fun r10 hr10 => ?_)
        refine tw_c_X10_firstWalkPaces X dX11_walk_82 _ tw_w1106  hr10 (tw_le hfr rfl) (tw_le hlo rfl) hcs (Nat.le_of_ble_eq_true rfl) trivial ?_
        exact r_iretX X dX11_walk_85 hret hQ rfl
      ·
        exact tw_th2_A X dX11_walk_63 dX11_walk_66 dX11_walk_67 dX11_walk_69 dX11_walk_72 rfl tw_l_A_204 hT
    ·
      exact tw_Rf.sub [] rfl (hj5 () trivial)
theorem tw_m_X11_walk {l : Launch} {B : Nat} {D : tw_G} {C : Nat → ClassId} {S : Nat → Nat} {n : Nat} {x0 : Int32} {x1 : Int32} {x2 : Int32} {x3 : Int32} {σ : tw_Sg}  {r : Int32 × tw_Sg} (h : tw_P_X11_walk n x0 x1 x2 x3 σ = some (.inl r)) : tw_Met l B D C S yX11_walk cX11_walk 6 (some .int) ({ frames := 7, cells := 0, slots := 0, locals := 147 } : Room) [.ref (B + 0), .int x0, .int x1, .int x2, .int x3] σ (some (.int r.1)) r.2 := tw_metOfR (rm := ({ frames := 7, cells := 0, slots := 0, locals := 147 } : Room)) (tw_P_X11_walk n x0 x1 x2 x3 σ) r h (fun r => (some (.int r.1), r.2)) (by decide +kernel) (Nat.le_of_ble_eq_true rfl) (fun z res el eB eD eC eS hfr hlo hcs X hret hQ hT => tw_b_X11_walk  z res el eB eD eC eS hfr hlo hcs X hret hQ hT)
theorem tw_mx_X11_walk {l : Launch} {B : Nat} {D : tw_G} {C : Nat → ClassId} {S : Nat → Nat} {n : Nat} {x0 : Int32} {x1 : Int32} {x2 : Int32} {x3 : Int32} {σ : tw_Sg}  (hst : l.stackTraces = false) {x : String} (h : tw_P_X11_walk n x0 x1 x2 x3 σ = some (.inr x)) : tw_MetX l B D C S yX11_walk cX11_walk 6 (some .int) ({ frames := 7, cells := 1, slots := 6, locals := 147 } : Room) [.ref (B + 0), .int x0, .int x1, .int x2, .int x3] σ x := tw_metOfX (rm := ({ frames := 7, cells := 0, slots := 0, locals := 147 } : Room)) hst (tw_P_X11_walk n x0 x1 x2 x3 σ) x h (fun r => (some (.int r.1), r.2)) (by decide +kernel) (Nat.le_of_ble_eq_true rfl) ⟨by decide, by decide⟩ (fun z res el eB eD eC eS hfr hlo hcs X hret hQ hT => tw_b_X11_walk  z res el eB eD eC eS hfr hlo hcs X hret hQ hT)
def tw_P_X11_starts (n : Nat) (x0 : Int32) (x1 : Int32) (x2 : Int32) (σ : tw_Sg) : Option ((Int32 × tw_Sg) ⊕ String) :=
tw_bx (tw_P_X11_checkClue x0 σ) (fun r1 =>
tw_bx (tw_P_X11_checkedSpot x1 x2 σ) (fun r2 =>
tw_bd (tw_P_X10_countStarts n x0 r2 σ) (fun r3 =>
some (Sum.inl (r3.1, r3.2)))))
theorem tw_y_X11_starts : tw_My yX11_starts cX11_starts 4 (some .int) 3 := ⟨List.mem_of_getElem? tw_w1133, List.mem_of_getElem? tw_w36, by decide +kernel, by decide +kernel, by decide +kernel⟩
theorem tw_v_X11_starts : tw_Mv yX11_starts "TreasureWalk" := ⟨List.mem_of_getElem? tw_w1131, List.mem_of_getElem? tw_w1132, rfl⟩
set_option maxRecDepth 100000 in
set_option maxHeartbeats 4000000 in
theorem tw_b_X11_starts {l : Launch} {B : Nat} {D : tw_G} {C : Nat → ClassId} {S : Nat → Nat} {n : Nat} {x0 : Int32} {x1 : Int32} {x2 : Int32} {σ : tw_Sg}  (z : tw_Z) (res : (Int32 × tw_Sg) ⊕ String) (el : tw_zl z = l) (eB : tw_zB z = B) (eD : tw_zD z = D) (eC : tw_zC z = C) (eS : tw_zS z = S) (hfr : (tw_zR z).frames = 7) (hlo : (tw_zR z).locals = 146) (hcs : tw_zcells z ≤ (tw_zR z).cells ∧ tw_zslots z ≤ (tw_zR z).slots) (X : tw_X z cX11_starts "TreasureWalk" 4) (hret : (tw_zmeth z).sig.returnType = (some .int)) (hQ : tw_RoX z (fun r => (some (.int r.1), r.2)) res) (hT : ∀ x, res = .inr x → tw_To z σ x) : tw_Rf z res (tw_P_X11_starts n x0 x1 x2 σ) σ 0 (lv_args 0 [.ref (B + 0), .int x0, .int x1, .int x2]) [] := by
  subst el eB eD eC eS
  show tw_Rf z res _ σ 0 [(0, .ref (tw_zB z + 0)), (1, .int x0), (2, .int x1), (3, .int x2)] []
  unfold tw_P_X11_starts
  refine r_aload_n X dX11_starts_0 rfl 0 rfl ?_
  refine r_iload_n X dX11_starts_1 rfl 1 rfl ?_
  refine r_bx (fun r1 hr1 => ?_) (fun r1 hr1 => tw_cx_X11_checkClue X dX11_starts_2 _ tw_w1079  hr1 (tw_le hfr rfl) (tw_le hlo rfl) (Nat.le_of_ble_eq_true rfl) trivial hT)
  refine tw_c_X11_checkClue X dX11_starts_2 _ tw_w1079  hr1 (tw_le hfr rfl) (tw_le hlo rfl) hcs (Nat.le_of_ble_eq_true rfl) trivial ?_
  refine r_aload_n X dX11_starts_5 rfl 0 rfl ?_
  refine tw_g11_3 (k := 0) (v := .ref (tw_zB z + 33)) X dX11_starts_6 _ tw_w434 tw_kc0 rfl ?_
  refine r_iload_n X dX11_starts_9 rfl 1 rfl ?_
  refine r_aload_n X dX11_starts_10 rfl 0 rfl ?_
  refine r_iload_n X dX11_starts_11 rfl 2 rfl ?_
  refine r_iload_n X dX11_starts_12 rfl 3 rfl ?_
  refine r_bx (fun r2 hr2 => ?_) (fun r2 hr2 => tw_cx_X11_checkedSpot X dX11_starts_13 _ tw_w1042  hr2 (tw_le hfr rfl) (tw_le hlo rfl) (Nat.le_of_ble_eq_true rfl) trivial hT)
  refine tw_c_X11_checkedSpot X dX11_starts_13 _ tw_w1042  hr2 (tw_le hfr rfl) (tw_le hlo rfl) hcs (Nat.le_of_ble_eq_true rfl) trivial ?_
  refine r_bd (fun r3 hr3 => ?_)
  refine tw_c_X10_countStarts X dX11_starts_16 _ tw_w1134  hr3 (tw_le hfr rfl) (tw_le hlo rfl) hcs (Nat.le_of_ble_eq_true rfl) trivial ?_
  exact r_iretX X dX11_starts_19 hret hQ rfl
theorem tw_m_X11_starts {l : Launch} {B : Nat} {D : tw_G} {C : Nat → ClassId} {S : Nat → Nat} {n : Nat} {x0 : Int32} {x1 : Int32} {x2 : Int32} {σ : tw_Sg}  {r : Int32 × tw_Sg} (h : tw_P_X11_starts n x0 x1 x2 σ = some (.inl r)) : tw_Met l B D C S yX11_starts cX11_starts 4 (some .int) ({ frames := 7, cells := 0, slots := 0, locals := 146 } : Room) [.ref (B + 0), .int x0, .int x1, .int x2] σ (some (.int r.1)) r.2 := tw_metOfR (rm := ({ frames := 7, cells := 0, slots := 0, locals := 146 } : Room)) (tw_P_X11_starts n x0 x1 x2 σ) r h (fun r => (some (.int r.1), r.2)) (by decide +kernel) (Nat.le_of_ble_eq_true rfl) (fun z res el eB eD eC eS hfr hlo hcs X hret hQ hT => tw_b_X11_starts  z res el eB eD eC eS hfr hlo hcs X hret hQ hT)
theorem tw_mx_X11_starts {l : Launch} {B : Nat} {D : tw_G} {C : Nat → ClassId} {S : Nat → Nat} {n : Nat} {x0 : Int32} {x1 : Int32} {x2 : Int32} {σ : tw_Sg}  (hst : l.stackTraces = false) {x : String} (h : tw_P_X11_starts n x0 x1 x2 σ = some (.inr x)) : tw_MetX l B D C S yX11_starts cX11_starts 4 (some .int) ({ frames := 7, cells := 1, slots := 6, locals := 146 } : Room) [.ref (B + 0), .int x0, .int x1, .int x2] σ x := tw_metOfX (rm := ({ frames := 7, cells := 0, slots := 0, locals := 146 } : Room)) hst (tw_P_X11_starts n x0 x1 x2 σ) x h (fun r => (some (.int r.1), r.2)) (by decide +kernel) (Nat.le_of_ble_eq_true rfl) ⟨by decide, by decide⟩ (fun z res el eB eD eC eS hfr hlo hcs X hret hQ hT => tw_b_X11_starts  z res el eB eD eC eS hfr hlo hcs X hret hQ hT)
