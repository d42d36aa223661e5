def tw_P_X12_distance (n : Nat) (x0 : Int32) (x1 : Int32) (σ : tw_Sg) : Option (Int32 × tw_Sg) :=
tw_lt (tw_up σ 442 0 (0 : Int32)) (fun (σ1 : tw_Sg) =>
tw_bd (tw_P_X12_noCell x0 x1 σ1) (fun r2 =>
if r2.1 = 0 then (tw_ck (tw_ok (4 : Int32) (tw_ln 444)) (
tw_bd (tw_P_X12_layFar n (r2.2 444 (Int32.toNatClampNeg (4 : Int32))) r2.2) (fun r3 =>
tw_bd (tw_P_X12_cellAt x0 x1 r3) (fun r4 =>
tw_ck (tw_ok r4 (tw_ln 508)) (
some ((r3 508 (Int32.toNatClampNeg r4)), r3))))))
else (some ((0 : Int32), r2.2))))
theorem tw_y_X12_distance : tw_My yX12_distance cX12_distance 3 (some .int) 2 := ⟨List.mem_of_getElem? tw_w1647, List.mem_of_getElem? tw_w101, by decide +kernel, by decide +kernel, by decide +kernel⟩
theorem tw_v_X12_distance : tw_Mv yX12_distance "TreasureWalkModel" := ⟨List.mem_of_getElem? tw_w1645, List.mem_of_getElem? tw_w1646, rfl⟩
set_option maxRecDepth 100000 in
set_option maxHeartbeats 4000000 in
theorem tw_m_X12_distance {l : Launch} {B : Nat} {D : va_G} {C : Nat → ClassId} {S : Nat → Nat} {n : Nat} {x0 : Int32} {x1 : Int32} {σ : tw_Sg}  {r : Int32 × tw_Sg} (h : tw_P_X12_distance n x0 x1 σ = some r) : tw_Met l B D C S yX12_distance cX12_distance 3 (some .int) ({ frames := 3, cells := 0, slots := 0, locals := 71 } : Room) [.ref (B + 442), .int x0, .int x1] σ (some (.int r.1)) r.2 := by
  refine tw_metOfP (tw_P_X12_distance n x0 x1 σ) r h (fun r => (some (.int r.1), r.2)) (by decide +kernel) (Nat.le_of_ble_eq_true rfl) ⟨rfl, rfl⟩ ?_
  intro z el eB eD eC eS hfr hlo hcs X hret hQ
  subst el eB eD eC eS
  have X : tw_X z cX12_distance "TreasureWalkModel" 3 := X
  show tw_Rf z r _ σ 0 [(0, .ref (tw_zB z + 442)), (1, .int x0), (2, .int x1)] []
  unfold tw_P_X12_distance
  refine r_aload_n X dX12_distance_0 rfl 0 rfl ?_
  refine r_iconst X dX12_distance_1 (v := (0 : Int32)) (by decide) ?_
  refine tw_s12_0 (k := 442) X dX12_distance_2 _ tw_w1252 tw_kc442 (fun σ1 => ?_)
  refine r_aload_n X dX12_distance_5 rfl 0 rfl ?_
  refine r_iload_n X dX12_distance_6 rfl 1 rfl ?_
  refine r_iload_n X dX12_distance_7 rfl 2 rfl ?_
  refine r_bd (fun r2 hr2 => ?_)
  refine tw_c_X12_noCell X dX12_distance_8 _ tw_w1596  hr2 (tw_le hfr rfl) (tw_le hlo rfl) hcs (Nat.le_of_ble_eq_true rfl) trivial ?_
  refine r_if_eq X dX12_distance_11 (tgt := 16) (by decide) ?_ ?_
  ·
    refine r_aload_n X dX12_distance_16 rfl 0 rfl ?_
    refine r_aload_n X dX12_distance_17 rfl 0 rfl ?_
    refine tw_g12_8 (k := 442) (v := .ref (tw_zB z + 444)) X dX12_distance_18 _ tw_w1260 tw_kc442 rfl ?_
    refine r_iconst X dX12_distance_21 (v := (4 : Int32)) (by decide) ?_
    refine r_iald (k := 444) X dX12_distance_22 tw_kc444 ?_
    refine r_bd (fun r3 hr3 => ?_)
    refine tw_c_X12_layFar X dX12_distance_23 _ tw_w1648  hr3 (tw_le hfr rfl) (tw_le hlo rfl) hcs (Nat.le_of_ble_eq_true rfl) trivial ?_
    refine r_aload_n X dX12_distance_26 rfl 0 rfl ?_
    refine tw_g12_24 (k := 442) (v := .ref (tw_zB z + 508)) X dX12_distance_27 _ tw_w1276 tw_kc442 rfl ?_
    refine r_aload_n X dX12_distance_30 rfl 0 rfl ?_
    refine r_iload_n X dX12_distance_31 rfl 1 rfl ?_
    refine r_iload_n X dX12_distance_32 rfl 2 rfl ?_
    refine r_bd (fun r4 hr4 => ?_)
    refine tw_c_X12_cellAt X dX12_distance_33 _ tw_w1576  hr4 (tw_le hfr rfl) (tw_le hlo rfl) hcs (Nat.le_of_ble_eq_true rfl) trivial ?_
    refine r_iald (k := 508) X dX12_distance_36 tw_kc508 ?_
    exact r_iret X dX12_distance_37 hret hQ rfl
  ·
    refine r_iconst X dX12_distance_14 (v := (0 : Int32)) (by decide) ?_
    exact r_iret X dX12_distance_15 hret hQ rfl
theorem tw_c_X12_distance {ρ : Type} {z : tw_Z} {cc : ByteArray} {own : String} {nL pc : Nat} {σ : tw_Sg} {L : List (Nat × Value)} {st : List Value} {ix : Nat} {n : Nat} {x0 : Int32} {x1 : Int32} (X : tw_X z cc own nL) (d : decode cc pc = .ok (.invokevirtual ix, 3)) (i : Nat) (hi : lw_tbl[i]? = some (.methodLink own ix yX12_distance))  {res : ρ} {E : Option ρ} {r : Int32 × tw_Sg} (h : tw_P_X12_distance n x0 x1 σ = some r) (h1 : 4 ≤ (tw_zR z).frames) (h2 : 93 ≤ (tw_zR z).locals) (hcs : tw_zcells z ≤ (tw_zR z).cells ∧ tw_zslots z ≤ (tw_zR z).slots) (hst : (st.map fun v => v.category).sum ≤ 8) (_ : True) (kk : tw_Rf z res E r.2 (pc + 3) L (.int r.1 :: st)) : tw_Rf z res E σ pc L (.int x1 :: .int x0 :: .ref (tw_zB z + 442) :: st) := r_callV (As := [.int x0, .int x1]) X d (tw_m_X12_distance  h) tw_y_X12_distance tw_v_X12_distance i hi rfl (tw_kd_lt tw_kc442 (by decide)) (tw_E12 tw_kc442) rfl ⟨rfl, rfl, h1, h2⟩ hcs hst rfl kk
def tw_P_X12_nearest (n : Nat)  (σ : tw_Sg) : Option (Int32 × tw_Sg) :=
tw_lt (tw_up σ 442 0 (0 : Int32)) (fun (σ1 : tw_Sg) =>
tw_ck (tw_ok (4 : Int32) (tw_ln 444)) (
tw_bd (tw_P_X12_layFar n (σ1 444 (Int32.toNatClampNeg (4 : Int32))) σ1) (fun r2 =>
tw_lt (-1 : Int32) (fun (v3 : Int32) =>
tw_lt (0 : Int32) (fun (v4 : Int32) =>
tw_lp (fun (k6 : (Int32 × Int32 × tw_Sg) → Option (Int32 × tw_Sg)) (a5 : Int32 × Int32 × tw_Sg) =>
tw_bd (tw_P_X12_cells a5.2.2) (fun r7 =>
if r7 ≤ a5.2.1 then (some (a5.1, a5.2.2))
else (tw_bd (tw_P_X12_isLeft n a5.2.1 a5.2.2) (fun r8 =>
tw_jn (fun (a9 : Int32) =>
tw_lt (a5.2.1 + (1 : Int32)) (fun (v11 : Int32) =>
k6 (a9, v11, r8.2))) (fun (j10 : (Int32) → Option (Int32 × tw_Sg)) =>
if r8.1 = 0 then (j10 a5.1)
else (tw_ck (tw_ok a5.2.1 (tw_ln 508)) (
if (r8.2 508 (Int32.toNatClampNeg a5.2.1)) = (-1 : Int32) then (j10 a5.1)
else (tw_jn (fun (a12 : Unit) =>
tw_lt a5.2.1 (fun (v14 : Int32) =>
j10 v14)) (fun (j13 : (Unit) → Option (Int32 × tw_Sg)) =>
if a5.1 = (-1 : Int32) then (j13 ())
else (tw_ck (tw_ok a5.2.1 (tw_ln 508)) (
tw_ck (tw_ok a5.1 (tw_ln 508)) (
if (r8.2 508 (Int32.toNatClampNeg a5.1)) ≤ (r8.2 508 (Int32.toNatClampNeg a5.2.1)) then (j10 a5.1)
else (j13 ()))))))))))))) n (v3, v4, r2))))))
theorem tw_y_X12_nearest : tw_My yX12_nearest cX12_nearest 3 (some .int) 0 := ⟨List.mem_of_getElem? tw_w1655, List.mem_of_getElem? tw_w101, by decide +kernel, by decide +kernel, by decide +kernel⟩
theorem tw_v_X12_nearest : tw_Mv yX12_nearest "TreasureWalkModel" := ⟨List.mem_of_getElem? tw_w1653, List.mem_of_getElem? tw_w1654, rfl⟩
set_option maxRecDepth 100000 in
set_option maxHeartbeats 4000000 in
theorem tw_m_X12_nearest {l : Launch} {B : Nat} {D : va_G} {C : Nat → ClassId} {S : Nat → Nat} {n : Nat}  {σ : tw_Sg}  {r : Int32 × tw_Sg} (h : tw_P_X12_nearest n σ = some r) : tw_Met l B D C S yX12_nearest cX12_nearest 3 (some .int) ({ frames := 9, cells := 0, slots := 0, locals := 215 } : Room) [.ref (B + 442)] σ (some (.int r.1)) r.2 := by
  refine tw_metOfP (tw_P_X12_nearest n σ) r h (fun r => (some (.int r.1), r.2)) (by decide +kernel) (Nat.le_of_ble_eq_true rfl) ⟨rfl, rfl⟩ ?_
  intro z el eB eD eC eS hfr hlo hcs X hret hQ
  subst el eB eD eC eS
  have X : tw_X z cX12_nearest "TreasureWalkModel" 3 := X
  show tw_Rf z r _ σ 0 [(0, .ref (tw_zB z + 442))] []
  unfold tw_P_X12_nearest
  refine r_aload_n X dX12_nearest_0 rfl 0 rfl ?_
  refine r_iconst X dX12_nearest_1 (v := (0 : Int32)) (by decide) ?_
  refine tw_s12_0 (k := 442) X dX12_nearest_2 _ tw_w1252 tw_kc442 (fun σ1 => ?_)
  refine r_aload_n X dX12_nearest_5 rfl 0 rfl ?_
  refine r_aload_n X dX12_nearest_6 rfl 0 rfl ?_
  refine tw_g12_8 (k := 442) (v := .ref (tw_zB z + 444)) X dX12_nearest_7 _ tw_w1260 tw_kc442 rfl ?_
  refine r_iconst X dX12_nearest_10 (v := (4 : Int32)) (by decide) ?_
  refine r_iald (k := 444) X dX12_nearest_11 tw_kc444 ?_
  refine r_bd (fun r2 hr2 => ?_)
  refine tw_c_X12_layFar X dX12_nearest_12 _ tw_w1648  hr2 (tw_le hfr rfl) (tw_le hlo rfl) hcs (Nat.le_of_ble_eq_true rfl) trivial ?_
  refine r_iconst X dX12_nearest_15 (v := (-1 : Int32)) (by decide) ?_
  refine r_istore_n X dX12_nearest_16 rfl (by decide) (LL := fun v3 => [(1, .int v3), (0, .ref (tw_zB z + 442))]) (fun _ => rfl) (fun v3 => ?_)
  refine r_iconst X dX12_nearest_17 (v := (0 : Int32)) (by decide) ?_
  refine r_istore_n X dX12_nearest_18 rfl (by decide) (LL := fun v4 => [(2, .int v4), (1, .int v3), (0, .ref (tw_zB z + 442))]) (fun _ => rfl) (fun v4 => ?_)
  refine r_lp (α := Int32 × Int32 × tw_Sg) (σJ := fun a5 => a5.2.2) (pcJ := 19) (LJ := fun a5 => [(2, .int a5.2.1), (1, .int a5.1), (0, .ref (tw_zB z + 442))]) (stJ := fun a5 => []) (fun k6 hk6 a5 => ?_) n (v3, v4, r2)
  refine r_iload_n X dX12_nearest_19 rfl 0 rfl ?_
  refine r_aload_n X dX12_nearest_20 rfl 2 rfl ?_
  refine r_bd (fun r7 hr7 => ?_)
  refine tw_c_X12_cells X dX12_nearest_21 _ tw_w1523  hr7 (tw_le hfr rfl) (tw_le hlo rfl) hcs (Nat.le_of_ble_eq_true rfl) trivial ?_
  refine r_icmp_ge X dX12_nearest_24 (tgt := 73) (by decide) ?_ ?_
  ·
    refine r_iload_n X dX12_nearest_73 rfl 1 rfl ?_
    exact r_iret X dX12_nearest_74 hret hQ rfl
  ·
    refine r_aload_n X dX12_nearest_27 rfl 2 rfl ?_
    refine r_iload_n X dX12_nearest_28 rfl 0 rfl ?_
    refine r_bd (fun r8 hr8 => ?_)
    refine tw_c_X12_isLeft X dX12_nearest_29 _ tw_w1584  hr8 (tw_le hfr rfl) (tw_le hlo rfl) hcs (Nat.le_of_ble_eq_true rfl) trivial ?_
    refine r_jn (α := Int32) (σJ := fun a9 => r8.2) (pcJ := 67) (LJ := fun a9 => [(2, .int a5.2.1), (1, .int a9), (0, .ref (tw_zB z + 442))]) (stJ := fun a9 => []) (ok := fun a9 => True) (fun a9 hoka9 => ?_) (fun j10 hj10 => ?_)
    ·
      refine r_iinc X dX12_nearest_67 0 rfl (v := (1 : Int32)) (by decide) (by decide) (LL := fun v11 => [(2, .int v11), (1, .int a9), (0, .ref (tw_zB z + 442))]) (fun _ => rfl) (fun v11 => ?_)
      refine r_goto X dX12_nearest_70 (tgt := 19) (by decide) ?_
      exact hk6 (a9, v11, r8.2)
    refine r_if_eq X dX12_nearest_32 (tgt := 67) (by decide) ?_ ?_
    ·
      exact hj10 a5.1 trivial
    ·
      refine r_aload_n X dX12_nearest_35 rfl 2 rfl ?_
      refine tw_g12_24 (k := 442) (v := .ref (tw_zB z + 508)) X dX12_nearest_36 _ tw_w1276 tw_kc442 rfl ?_
      refine r_iload_n X dX12_nearest_39 rfl 0 rfl ?_
      refine r_iald (k := 508) X dX12_nearest_40 tw_kc508 ?_
      refine r_iconst X dX12_nearest_41 (v := (-1 : Int32)) (by decide) ?_
      refine r_icmp_eq X dX12_nearest_42 (tgt := 67) (by decide) ?_ ?_
      ·
        exact hj10 a5.1 trivial
      ·
        refine r_iload_n X dX12_nearest_45 rfl 1 rfl ?_
        refine r_iconst X dX12_nearest_46 (v := (-1 : Int32)) (by decide) ?_
        refine r_jn (α := Unit) (σJ := fun a12 => r8.2) (pcJ := 65) (LJ := fun a12 => [(2, .int a5.2.1), (0, .ref (tw_zB z + 442))]) (stJ := fun a12 => []) (ok := fun a12 => True) (fun a12 hoka12 => ?_) (fun j13 hj13 => ?_)
        ·
          refine r_iload_n X dX12_nearest_65 rfl 0 rfl ?_
          refine r_istore_n X dX12_nearest_66 rfl (by decide) (LL := fun v14 => [(1, .int v14), (2, .int a5.2.1), (0, .ref (tw_zB z + 442))]) (fun _ => rfl) (fun v14 => ?_)
          exact tw_Rf.sub [1, 0, 2] rfl (hj10 v14 trivial)
        refine r_icmp_eq X dX12_nearest_47 (tgt := 65) (by decide) ?_ ?_
        ·
          exact tw_Rf.sub [0, 2] rfl (hj13 () trivial)
        ·
          refine r_aload_n X dX12_nearest_50 rfl 2 rfl ?_
          refine tw_g12_24 (k := 442) (v := .ref (tw_zB z + 508)) X dX12_nearest_51 _ tw_w1276 tw_kc442 rfl ?_
          refine r_iload_n X dX12_nearest_54 rfl 0 rfl ?_
          refine r_iald (k := 508) X dX12_nearest_55 tw_kc508 ?_
          refine r_aload_n X dX12_nearest_56 rfl 2 rfl ?_
          refine tw_g12_24 (k := 442) (v := .ref (tw_zB z + 508)) X dX12_nearest_57 _ tw_w1276 tw_kc442 rfl ?_
          refine r_iload_n X dX12_nearest_60 rfl 1 rfl ?_
          refine r_iald (k := 508) X dX12_nearest_61 tw_kc508 ?_
          refine r_icmp_ge X dX12_nearest_62 (tgt := 67) (by decide) ?_ ?_
          ·
            exact hj10 a5.1 trivial
          ·
            exact tw_Rf.sub [0, 2] rfl (hj13 () trivial)
theorem tw_c_X12_nearest {ρ : Type} {z : tw_Z} {cc : ByteArray} {own : String} {nL pc : Nat} {σ : tw_Sg} {L : List (Nat × Value)} {st : List Value} {ix : Nat} {n : Nat}  (X : tw_X z cc own nL) (d : decode cc pc = .ok (.invokevirtual ix, 3)) (i : Nat) (hi : lw_tbl[i]? = some (.methodLink own ix yX12_nearest))  {res : ρ} {E : Option ρ} {r : Int32 × tw_Sg} (h : tw_P_X12_nearest n σ = some r) (h1 : 10 ≤ (tw_zR z).frames) (h2 : 237 ≤ (tw_zR z).locals) (hcs : tw_zcells z ≤ (tw_zR z).cells ∧ tw_zslots z ≤ (tw_zR z).slots) (hst : (st.map fun v => v.category).sum ≤ 8) (_ : True) (kk : tw_Rf z res E r.2 (pc + 3) L (.int r.1 :: st)) : tw_Rf z res E σ pc L (.ref (tw_zB z + 442) :: st) := r_callV (As := []) X d (tw_m_X12_nearest  h) tw_y_X12_nearest tw_v_X12_nearest i hi rfl (tw_kd_lt tw_kc442 (by decide)) (tw_E12 tw_kc442) rfl ⟨rfl, rfl, h1, h2⟩ hcs hst rfl kk
def tw_P_X12_shortest (n : Nat) (x0 : Int32) (σ : tw_Sg) : Option (Int32 × tw_Sg) :=
tw_lt (((1 : Int32) <<< (x0 &&& 31)) - (1 : Int32)) (fun (v1 : Int32) =>
tw_lt (1000000 : Int32) (fun (v2 : Int32) =>
tw_lt (1 : Int32) (fun (v3 : Int32) =>
tw_lp (fun (k5 : (Int32 × tw_Sg) → Option (Int32 × tw_Sg)) (a4 : Int32 × tw_Sg) =>
if v1 < a4.1 then (tw_lt (0 : Int32) (fun (v6 : Int32) =>
tw_lp (fun (k8 : (Int32 × Int32 × tw_Sg) → Option (Int32 × tw_Sg)) (a7 : Int32 × Int32 × tw_Sg) =>
if x0 ≤ a7.2.1 then (some (a7.1, a7.2.2))
else (tw_ck (tw_ok v1 (tw_ln 523)) (
tw_ck (tw_ok a7.2.1 (tw_ln (523 + 1 + 1 * Int32.toNatClampNeg v1))) (
tw_bd (tw_P_X12_min a7.1 (a7.2.2 (523 + 1 + 1 * Int32.toNatClampNeg v1) (Int32.toNatClampNeg a7.2.1)) a7.2.2) (fun r10 =>
tw_lt r10 (fun (v11 : Int32) =>
tw_lt (a7.2.1 + (1 : Int32)) (fun (v12 : Int32) =>
k8 (v11, v12, a7.2.2)))))))) n (v2, v6, a4.2)))
else (tw_lt (0 : Int32) (fun (v13 : Int32) =>
tw_lp (fun (k15 : (Int32 × Int32 × tw_Sg) → Option (Int32 × tw_Sg)) (a14 : Int32 × Int32 × tw_Sg) =>
if x0 ≤ a14.2.1 then (tw_lt (a14.1 + (1 : Int32)) (fun (v16 : Int32) =>
k5 (v16, a14.2.2)))
else (tw_lt (a14.1 &&& (((1 : Int32) <<< (a14.2.1 &&& 31)) ^^^ (-1 : Int32))) (fun (v17 : Int32) =>
tw_ck (tw_ok a14.1 (tw_ln 523)) (
tw_jn (fun (a19 : Int32) =>
tw_ck (tw_ok a14.2.1 (tw_ln (523 + 1 + 1 * Int32.toNatClampNeg a14.1))) (tw_lt (tw_up a14.2.2 (523 + 1 + 1 * Int32.toNatClampNeg a14.1) (Int32.toNatClampNeg a14.2.1) a19) (fun (σ21 : tw_Sg) =>
tw_lt (0 : Int32) (fun (v22 : Int32) =>
tw_lp (fun (k24 : (Int32 × Int32 × Int32 × tw_Sg) → Option (Int32 × tw_Sg)) (a23 : Int32 × Int32 × Int32 × tw_Sg) =>
tw_jn (fun (a25 : Unit) =>
tw_lt (a23.2.1 + (1 : Int32)) (fun (v27 : Int32) =>
k15 (a23.1, v27, a23.2.2.2))) (fun (j26 : (Unit) → Option (Int32 × tw_Sg)) =>
if x0 ≤ a23.2.2.1 then (j26 ())
else (if v17 = a23.1 then (j26 ())
else (tw_jn (fun (a28 : tw_Sg) =>
tw_lt (a23.2.2.1 + (1 : Int32)) (fun (v30 : Int32) =>
k24 (a23.1, a23.2.1, v30, a28))) (fun (j29 : (tw_Sg) → Option (Int32 × tw_Sg)) =>
if ¬ ((v17 >>> (a23.2.2.1 &&& 31)) &&& (1 : Int32)) = (1 : Int32) then (j29 a23.2.2.2)
else (tw_ck (tw_ok a23.1 (tw_ln 523)) (
tw_ck (tw_ok a23.1 (tw_ln 523)) (
tw_ck (tw_ok a23.2.1 (tw_ln (523 + 1 + 1 * Int32.toNatClampNeg a23.1))) (
tw_ck (tw_ok v17 (tw_ln 523)) (
tw_ck (tw_ok a23.2.2.1 (tw_ln (523 + 1 + 1 * Int32.toNatClampNeg v17))) (
tw_ck (tw_ok a23.2.2.1 (tw_ln 513)) (
tw_ck (tw_ok a23.2.1 (tw_ln (513 + 1 + 1 * Int32.toNatClampNeg a23.2.2.1))) (
tw_bd (tw_P_X12_min (a23.2.2.2 (523 + 1 + 1 * Int32.toNatClampNeg a23.1) (Int32.toNatClampNeg a23.2.1)) ((a23.2.2.2 (523 + 1 + 1 * Int32.toNatClampNeg v17) (Int32.toNatClampNeg a23.2.2.1)) + (a23.2.2.2 (513 + 1 + 1 * Int32.toNatClampNeg a23.2.2.1) (Int32.toNatClampNeg a23.2.1))) a23.2.2.2) (fun r35 =>
tw_ck (tw_ok a23.2.1 (tw_ln (523 + 1 + 1 * Int32.toNatClampNeg a23.1))) (tw_lt (tw_up a23.2.2.2 (523 + 1 + 1 * Int32.toNatClampNeg a23.1) (Int32.toNatClampNeg a23.2.1) r35) (fun (σ36 : tw_Sg) =>
j29 σ36)))))))))))))))) n (a14.1, a14.2.1, v22, σ21))))) (fun (j20 : (Int32) → Option (Int32 × tw_Sg)) =>
if ¬ v17 = a14.1 then (if ¬ v17 = 0 then (j20 (1000000 : Int32))
else (tw_ck (tw_ok a14.2.1 (tw_ln 512)) (
j20 (a14.2.2 512 (Int32.toNatClampNeg a14.2.1)))))
else (j20 (1000000 : Int32))))))) n (a4.1, v13, a4.2)))) n (v3, σ))))
theorem tw_y_X12_shortest : tw_My yX12_shortest cX12_shortest 8 (some .int) 1 := ⟨List.mem_of_getElem? tw_w1663, List.mem_of_getElem? tw_w101, by decide +kernel, by decide +kernel, by decide +kernel⟩
theorem tw_v_X12_shortest : tw_Mv yX12_shortest "TreasureWalkModel" := ⟨List.mem_of_getElem? tw_w1662, List.mem_of_getElem? tw_w86, rfl⟩
set_option maxRecDepth 100000 in
set_option maxHeartbeats 4000000 in
theorem tw_m_X12_shortest {l : Launch} {B : Nat} {D : va_G} {C : Nat → ClassId} {S : Nat → Nat} {n : Nat} {x0 : Int32} {σ : tw_Sg}  {r : Int32 × tw_Sg} (h : tw_P_X12_shortest n x0 σ = some r) : tw_Met l B D C S yX12_shortest cX12_shortest 8 (some .int) ({ frames := 1, cells := 0, slots := 0, locals := 21 } : Room) [.ref (B + 442), .int x0] σ (some (.int r.1)) r.2 := by
  refine tw_metOfP (tw_P_X12_shortest n x0 σ) r h (fun r => (some (.int r.1), r.2)) (by decide +kernel) (Nat.le_of_ble_eq_true rfl) ⟨rfl, rfl⟩ ?_
  intro z el eB eD eC eS hfr hlo hcs X hret hQ
  subst el eB eD eC eS
  have X : tw_X z cX12_shortest "TreasureWalkModel" 8 := X
  show tw_Rf z r _ σ 0 [(0, .ref (tw_zB z + 442)), (1, .int x0)] []
  unfold tw_P_X12_shortest
  refine r_iconst X dX12_shortest_0 (v := (1 : Int32)) (by decide) ?_
  refine r_iload_n X dX12_shortest_1 rfl 1 rfl ?_
  refine r_ishl X dX12_shortest_2 ?_
  refine r_iconst X dX12_shortest_3 (v := (1 : Int32)) (by decide) ?_
  refine r_isub X dX12_shortest_4 ?_
  refine r_istore_n X dX12_shortest_5 rfl (by decide) (LL := fun v1 => [(2, .int v1), (0, .ref (tw_zB z + 442)), (1, .int x0)]) (fun _ => rfl) (fun v1 => ?_)
  refine r_ldcIw X dX12_shortest_6 (v := (1000000 : Int32)) _ tw_w1664 ?_
  refine r_istore_n X dX12_shortest_9 rfl (by decide) (LL := fun v2 => [(3, .int v2), (2, .int v1), (0, .ref (tw_zB z + 442)), (1, .int x0)]) (fun _ => rfl) (fun v2 => ?_)
  refine r_iconst X dX12_shortest_10 (v := (1 : Int32)) (by decide) ?_
  refine r_istore X dX12_shortest_11 (by decide) (LL := fun v3 => [(4, .int v3), (3, .int v2), (2, .int v1), (0, .ref (tw_zB z + 442)), (1, .int x0)]) (fun _ => rfl) (fun v3 => ?_)
  refine r_lp (α := Int32 × tw_Sg) (σJ := fun a4 => a4.2) (pcJ := 13) (LJ := fun a4 => [(4, .int a4.1), (3, .int v2), (2, .int v1), (0, .ref (tw_zB z + 442)), (1, .int x0)]) (stJ := fun a4 => []) (fun k5 hk5 a4 => ?_) n (v3, σ)
  refine r_iload X dX12_shortest_13 0 rfl ?_
  refine r_iload_n X dX12_shortest_15 rfl 2 rfl ?_
  refine r_icmp_gt X dX12_shortest_16 (tgt := 169) (by decide) ?_ ?_
  ·
    refine r_iconst X dX12_shortest_169 (v := (0 : Int32)) (by decide) ?_
    refine r_istore X dX12_shortest_170 (by decide) (LL := fun v6 => [(4, .int v6), (3, .int v2), (2, .int v1), (0, .ref (tw_zB z + 442)), (1, .int x0)]) (fun _ => rfl) (fun v6 => ?_)
    refine r_lp (α := Int32 × Int32 × tw_Sg) (σJ := fun a7 => a7.2.2) (pcJ := 172) (LJ := fun a7 => [(4, .int a7.2.1), (3, .int a7.1), (2, .int v1), (0, .ref (tw_zB z + 442)), (1, .int x0)]) (stJ := fun a7 => []) (fun k8 hk8 a7 => ?_) n (v2, v6, a4.2)
    refine r_iload X dX12_shortest_172 0 rfl ?_
    refine r_iload_n X dX12_shortest_174 rfl 4 rfl ?_
    refine r_icmp_ge X dX12_shortest_175 (tgt := 198) (by decide) ?_ ?_
    ·
      refine r_iload_n X dX12_shortest_198 rfl 1 rfl ?_
      exact r_iret X dX12_shortest_199 hret hQ rfl
    ·
      refine r_iload_n X dX12_shortest_178 rfl 1 rfl ?_
      refine r_aload_n X dX12_shortest_179 rfl 3 rfl ?_
      refine tw_g12_30 (k := 442) (v := .ref (tw_zB z + 523)) X dX12_shortest_180 _ tw_w1282 tw_kc442 rfl ?_
      refine r_iload_n X dX12_shortest_183 rfl 2 rfl ?_
      refine r_aald (k := 523) (r := 523 + 1 + 1 * Int32.toNatClampNeg v1) X dX12_shortest_184 (tw_kd_lt tw_kc523 (by decide)) (tw_E17 tw_kc523) rfl rfl rfl (fun h9 => ?_)
      refine r_iload X dX12_shortest_185 0 rfl ?_
      refine r_iald (k := (523 + 1 + 1 * Int32.toNatClampNeg v1)) X dX12_shortest_187 (tw_ke17 tw_kc523 (tw_ok_lt h9)) ?_
      refine r_bd (fun r10 hr10 => ?_)
      refine tw_c_X12_min X dX12_shortest_188 _ tw_w1397  hr10 (tw_le hfr rfl) (tw_le hlo rfl) hcs (Nat.le_of_ble_eq_true rfl) trivial ?_
      refine r_istore_n X dX12_shortest_191 rfl (by decide) (LL := fun v11 => [(3, .int v11), (4, .int a7.2.1), (2, .int v1), (0, .ref (tw_zB z + 442)), (1, .int x0)]) (fun _ => rfl) (fun v11 => ?_)
      refine r_iinc X dX12_shortest_192 1 rfl (v := (1 : Int32)) (by decide) (by decide) (LL := fun v12 => [(4, .int v12), (3, .int v11), (2, .int v1), (0, .ref (tw_zB z + 442)), (1, .int x0)]) (fun _ => rfl) (fun v12 => ?_)
      refine r_goto X dX12_shortest_195 (tgt := 172) (by decide) ?_
      exact hk8 (v11, v12, a7.2.2)
  ·
    refine r_iconst X dX12_shortest_19 (v := (0 : Int32)) (by decide) ?_
    refine r_istore X dX12_shortest_20 (by decide) (LL := fun v13 => [(5, .int v13), (4, .int a4.1), (3, .int v2), (2, .int v1), (0, .ref (tw_zB z + 442)), (1, .int x0)]) (fun _ => rfl) (fun v13 => ?_)
    refine r_lp (α := Int32 × Int32 × tw_Sg) (σJ := fun a14 => a14.2.2) (pcJ := 22) (LJ := fun a14 => [(5, .int a14.2.1), (4, .int a14.1), (3, .int v2), (2, .int v1), (0, .ref (tw_zB z + 442)), (1, .int x0)]) (stJ := fun a14 => []) (fun k15 hk15 a14 => ?_) n (a4.1, v13, a4.2)
    refine r_iload X dX12_shortest_22 0 rfl ?_
    refine r_iload_n X dX12_shortest_24 rfl 5 rfl ?_
    refine r_icmp_ge X dX12_shortest_25 (tgt := 163) (by decide) ?_ ?_
    ·
      refine r_iinc X dX12_shortest_163 1 rfl (v := (1 : Int32)) (by decide) (by decide) (LL := fun v16 => [(4, .int v16), (5, .int a14.2.1), (3, .int v2), (2, .int v1), (0, .ref (tw_zB z + 442)), (1, .int x0)]) (fun _ => rfl) (fun v16 => ?_)
      refine r_goto X dX12_shortest_166 (tgt := 13) (by decide) ?_
      exact tw_Rf.sub [0, 2, 3, 4, 5] rfl (hk5 (v16, a14.2.2))
    ·
      refine r_iload X dX12_shortest_28 1 rfl ?_
      refine r_iconst X dX12_shortest_30 (v := (1 : Int32)) (by decide) ?_
      refine r_iload X dX12_shortest_31 0 rfl ?_
      refine r_ishl X dX12_shortest_33 ?_
      refine r_iconst X dX12_shortest_34 (v := (-1 : Int32)) (by decide) ?_
      refine r_ixor X dX12_shortest_35 ?_
      refine r_iand X dX12_shortest_36 ?_
      refine r_istore X dX12_shortest_37 (by decide) (LL := fun v17 => [(6, .int v17), (5, .int a14.2.1), (4, .int a14.1), (3, .int v2), (2, .int v1), (0, .ref (tw_zB z + 442)), (1, .int x0)]) (fun _ => rfl) (fun v17 => ?_)
      refine r_aload_n X dX12_shortest_39 rfl 5 rfl ?_
      refine tw_g12_30 (k := 442) (v := .ref (tw_zB z + 523)) X dX12_shortest_40 _ tw_w1282 tw_kc442 rfl ?_
      refine r_iload X dX12_shortest_43 2 rfl ?_
      refine r_aald (k := 523) (r := 523 + 1 + 1 * Int32.toNatClampNeg a14.1) X dX12_shortest_45 (tw_kd_lt tw_kc523 (by decide)) (tw_E17 tw_kc523) rfl rfl rfl (fun h18 => ?_)
      refine r_iload X dX12_shortest_46 1 rfl ?_
      refine r_iload X dX12_shortest_48 0 rfl ?_
      refine r_iload X dX12_shortest_50 2 rfl ?_
      refine r_jn (α := Int32) (σJ := fun a19 => a14.2.2) (pcJ := 79) (LJ := fun a19 => [(6, .int v17), (5, .int a14.2.1), (4, .int a14.1), (3, .int v2), (2, .int v1), (0, .ref (tw_zB z + 442)), (1, .int x0)]) (stJ := fun a19 => [.int a19, .int a14.2.1, .ref (tw_zB z + (523 + 1 + 1 * Int32.toNatClampNeg a14.1))]) (ok := fun a19 => True) (fun a19 hoka19 => ?_) (fun j20 hj20 => ?_)
      ·
        refine r_iast (k := (523 + 1 + 1 * Int32.toNatClampNeg a14.1)) X dX12_shortest_79 (tw_ke17 tw_kc523 (tw_ok_lt h18)) (fun σ21 => ?_)
        refine r_iconst X dX12_shortest_80 (v := (0 : Int32)) (by decide) ?_
        refine r_istore X dX12_shortest_81 (by decide) (LL := fun v22 => [(7, .int v22), (6, .int v17), (5, .int a14.2.1), (4, .int a14.1), (3, .int v2), (2, .int v1), (0, .ref (tw_zB z + 442)), (1, .int x0)]) (fun _ => rfl) (fun v22 => ?_)
        refine r_lp (α := Int32 × Int32 × Int32 × tw_Sg) (σJ := fun a23 => a23.2.2.2) (pcJ := 83) (LJ := fun a23 => [(7, .int a23.2.2.1), (6, .int v17), (5, .int a23.2.1), (4, .int a23.1), (3, .int v2), (2, .int v1), (0, .ref (tw_zB z + 442)), (1, .int x0)]) (stJ := fun a23 => []) (fun k24 hk24 a23 => ?_) n (a14.1, a14.2.1, v22, σ21)
        refine r_iload X dX12_shortest_83 0 rfl ?_
        refine r_iload_n X dX12_shortest_85 rfl 7 rfl ?_
        refine r_jn (α := Unit) (σJ := fun a25 => a23.2.2.2) (pcJ := 157) (LJ := fun a25 => [(5, .int a23.2.1), (4, .int a23.1), (3, .int v2), (2, .int v1), (0, .ref (tw_zB z + 442)), (1, .int x0)]) (stJ := fun a25 => []) (ok := fun a25 => True) (fun a25 hoka25 => ?_) (fun j26 hj26 => ?_)
        ·
          refine r_iinc X dX12_shortest_157 0 rfl (v := (1 : Int32)) (by decide) (by decide) (LL := fun v27 => [(5, .int v27), (4, .int a23.1), (3, .int v2), (2, .int v1), (0, .ref (tw_zB z + 442)), (1, .int x0)]) (fun _ => rfl) (fun v27 => ?_)
          refine r_goto X dX12_shortest_160 (tgt := 22) (by decide) ?_
          exact hk15 (a23.1, v27, a23.2.2.2)
        refine r_icmp_ge X dX12_shortest_86 (tgt := 157) (by decide) ?_ ?_
        ·
          exact tw_Rf.sub [2, 3, 4, 5, 6, 7] rfl (hj26 () trivial)
        ·
          refine r_iload X dX12_shortest_89 1 rfl ?_
          refine r_iload X dX12_shortest_91 3 rfl ?_
          refine r_icmp_eq X dX12_shortest_93 (tgt := 157) (by decide) ?_ ?_
          ·
            exact tw_Rf.sub [2, 3, 4, 5, 6, 7] rfl (hj26 () trivial)
          ·
            refine r_iload X dX12_shortest_96 1 rfl ?_
            refine r_iload X dX12_shortest_98 0 rfl ?_
            refine r_ishr X dX12_shortest_100 ?_
            refine r_iconst X dX12_shortest_101 (v := (1 : Int32)) (by decide) ?_
            refine r_iand X dX12_shortest_102 ?_
            refine r_iconst X dX12_shortest_103 (v := (1 : Int32)) (by decide) ?_
            refine r_jn (α := tw_Sg) (σJ := fun a28 => a28) (pcJ := 151) (LJ := fun a28 => [(7, .int a23.2.2.1), (6, .int v17), (5, .int a23.2.1), (4, .int a23.1), (3, .int v2), (2, .int v1), (0, .ref (tw_zB z + 442)), (1, .int x0)]) (stJ := fun a28 => []) (ok := fun a28 => True) (fun a28 hoka28 => ?_) (fun j29 hj29 => ?_)
            ·
              refine r_iinc X dX12_shortest_151 0 rfl (v := (1 : Int32)) (by decide) (by decide) (LL := fun v30 => [(7, .int v30), (6, .int v17), (5, .int a23.2.1), (4, .int a23.1), (3, .int v2), (2, .int v1), (0, .ref (tw_zB z + 442)), (1, .int x0)]) (fun _ => rfl) (fun v30 => ?_)
              refine r_goto X dX12_shortest_154 (tgt := 83) (by decide) ?_
              exact hk24 (a23.1, a23.2.1, v30, a28)
            refine r_icmp_ne X dX12_shortest_104 (tgt := 151) (by decide) ?_ ?_
            ·
              exact hj29 a23.2.2.2 trivial
            ·
              refine r_aload_n X dX12_shortest_107 rfl 6 rfl ?_
              refine tw_g12_30 (k := 442) (v := .ref (tw_zB z + 523)) X dX12_shortest_108 _ tw_w1282 tw_kc442 rfl ?_
              refine r_iload X dX12_shortest_111 3 rfl ?_
              refine r_aald (k := 523) (r := 523 + 1 + 1 * Int32.toNatClampNeg a23.1) X dX12_shortest_113 (tw_kd_lt tw_kc523 (by decide)) (tw_E17 tw_kc523) rfl rfl rfl (fun h31 => ?_)
              refine r_iload X dX12_shortest_114 2 rfl ?_
              refine r_aload_n X dX12_shortest_116 rfl 6 rfl ?_
              refine tw_g12_30 (k := 442) (v := .ref (tw_zB z + 523)) X dX12_shortest_117 _ tw_w1282 tw_kc442 rfl ?_
              refine r_iload X dX12_shortest_120 3 rfl ?_
              refine r_aald (k := 523) (r := 523 + 1 + 1 * Int32.toNatClampNeg a23.1) X dX12_shortest_122 (tw_kd_lt tw_kc523 (by decide)) (tw_E17 tw_kc523) rfl rfl rfl (fun h32 => ?_)
              refine r_iload X dX12_shortest_123 2 rfl ?_
              refine r_iald (k := (523 + 1 + 1 * Int32.toNatClampNeg a23.1)) X dX12_shortest_125 (tw_ke17 tw_kc523 (tw_ok_lt h32)) ?_
              refine r_aload_n X dX12_shortest_126 rfl 6 rfl ?_
              refine tw_g12_30 (k := 442) (v := .ref (tw_zB z + 523)) X dX12_shortest_127 _ tw_w1282 tw_kc442 rfl ?_
              refine r_iload X dX12_shortest_130 1 rfl ?_
              refine r_aald (k := 523) (r := 523 + 1 + 1 * Int32.toNatClampNeg v17) X dX12_shortest_132 (tw_kd_lt tw_kc523 (by decide)) (tw_E17 tw_kc523) rfl rfl rfl (fun h33 => ?_)
              refine r_iload X dX12_shortest_133 0 rfl ?_
              refine r_iald (k := (523 + 1 + 1 * Int32.toNatClampNeg v17)) X dX12_shortest_135 (tw_ke17 tw_kc523 (tw_ok_lt h33)) ?_
              refine r_aload_n X dX12_shortest_136 rfl 6 rfl ?_
              refine tw_g12_29 (k := 442) (v := .ref (tw_zB z + 513)) X dX12_shortest_137 _ tw_w1281 tw_kc442 rfl ?_
              refine r_iload X dX12_shortest_140 0 rfl ?_
              refine r_aald (k := 513) (r := 513 + 1 + 1 * Int32.toNatClampNeg a23.2.2.1) X dX12_shortest_142 (tw_kd_lt tw_kc513 (by decide)) (tw_E17 tw_kc513) rfl rfl rfl (fun h34 => ?_)
              refine r_iload X dX12_shortest_143 2 rfl ?_
              refine r_iald (k := (513 + 1 + 1 * Int32.toNatClampNeg a23.2.2.1)) X dX12_shortest_145 (tw_ke17 tw_kc513 (tw_ok_lt h34)) ?_
              refine r_iadd X dX12_shortest_146 ?_
              refine r_bd (fun r35 hr35 => ?_)
              refine tw_c_X12_min X dX12_shortest_147 _ tw_w1397  hr35 (tw_le hfr rfl) (tw_le hlo rfl) hcs (Nat.le_of_ble_eq_true rfl) trivial ?_
              refine r_iast (k := (523 + 1 + 1 * Int32.toNatClampNeg a23.1)) X dX12_shortest_150 (tw_ke17 tw_kc523 (tw_ok_lt h31)) (fun σ36 => ?_)
              exact hj29 σ36 trivial
      refine r_icmp_ne X dX12_shortest_52 (tgt := 61) (by decide) ?_ ?_
      ·
        refine r_iload X dX12_shortest_61 0 rfl ?_
        refine r_if_ne X dX12_shortest_63 (tgt := 76) (by decide) ?_ ?_
        ·
          refine r_ldcIw X dX12_shortest_76 (v := (1000000 : Int32)) _ tw_w1664 ?_
          exact hj20 (1000000 : Int32) trivial
        ·
          refine r_aload_n X dX12_shortest_66 rfl 5 rfl ?_
          refine tw_g12_28 (k := 442) (v := .ref (tw_zB z + 512)) X dX12_shortest_67 _ tw_w1280 tw_kc442 rfl ?_
          refine r_iload X dX12_shortest_70 1 rfl ?_
          refine r_iald (k := 512) X dX12_shortest_72 tw_kc512 ?_
          refine r_goto X dX12_shortest_73 (tgt := 79) (by decide) ?_
          exact hj20 (a14.2.2 512 (Int32.toNatClampNeg a14.2.1)) trivial
      ·
        refine r_ldcIw X dX12_shortest_55 (v := (1000000 : Int32)) _ tw_w1664 ?_
        refine r_goto X dX12_shortest_58 (tgt := 79) (by decide) ?_
        exact hj20 (1000000 : Int32) trivial
theorem tw_c_X12_shortest {ρ : Type} {z : tw_Z} {cc : ByteArray} {own : String} {nL pc : Nat} {σ : tw_Sg} {L : List (Nat × Value)} {st : List Value} {ix : Nat} {n : Nat} {x0 : Int32} (X : tw_X z cc own nL) (d : decode cc pc = .ok (.invokevirtual ix, 3)) (i : Nat) (hi : lw_tbl[i]? = some (.methodLink own ix yX12_shortest))  {res : ρ} {E : Option ρ} {r : Int32 × tw_Sg} (h : tw_P_X12_shortest n x0 σ = some r) (h1 : 2 ≤ (tw_zR z).frames) (h2 : 48 ≤ (tw_zR z).locals) (hcs : tw_zcells z ≤ (tw_zR z).cells ∧ tw_zslots z ≤ (tw_zR z).slots) (hst : (st.map fun v => v.category).sum ≤ 8) (_ : True) (kk : tw_Rf z res E r.2 (pc + 3) L (.int r.1 :: st)) : tw_Rf z res E σ pc L (.int x0 :: .ref (tw_zB z + 442) :: st) := r_callV (As := [.int x0]) X d (tw_m_X12_shortest  h) tw_y_X12_shortest tw_v_X12_shortest i hi rfl (tw_kd_lt tw_kc442 (by decide)) (tw_E12 tw_kc442) rfl ⟨rfl, rfl, h1, h2⟩ hcs hst rfl kk
def tw_P_X12_tour (n : Nat)  (σ : tw_Sg) : Option (Int32 × tw_Sg) :=
tw_lt (tw_up σ 442 0 (0 : Int32)) (fun (σ1 : tw_Sg) =>
tw_lt (0 : Int32) (fun (v2 : Int32) =>
tw_bd (tw_P_X12_count n (1 : Int32) σ1) (fun r3 =>
if r3.1 ≤ (9 : Int32) then (tw_ck (tw_ok (4 : Int32) (tw_ln 444)) (
tw_bd (tw_P_X12_layFar n (r3.2 444 (Int32.toNatClampNeg (4 : Int32))) r3.2) (fun r4 =>
tw_lt (0 : Int32) (fun (v5 : Int32) =>
tw_lp (fun (k7 : (Int32 × Int32 × tw_Sg) → Option (Int32 × tw_Sg)) (a6 : Int32 × Int32 × tw_Sg) =>
tw_bd (tw_P_X12_cells a6.2.2) (fun r8 =>
if r8 ≤ a6.2.1 then (tw_lt (0 : Int32) (fun (v9 : Int32) =>
tw_lp (fun (k11 : (Int32 × Int32 × tw_Sg) → Option (Int32 × tw_Sg)) (a10 : Int32 × Int32 × tw_Sg) =>
if a10.1 ≤ a10.2.1 then (tw_jn (fun (a12 : Int32 × tw_Sg) =>
some (a12.1, a12.2)) (fun (j13 : (Int32 × tw_Sg) → Option (Int32 × tw_Sg)) =>
if ¬ a10.1 = 0 then (tw_bd (tw_P_X12_shortest n a10.1 a10.2.2) (fun r14 =>
j13 (r14.1, r14.2)))
else (j13 ((0 : Int32), a10.2.2))))
else (tw_ck (tw_ok a10.2.1 (tw_ln 511)) (
tw_bd (tw_P_X12_layFar n (a10.2.2 511 (Int32.toNatClampNeg a10.2.1)) a10.2.2) (fun r15 =>
tw_lt (0 : Int32) (fun (v16 : Int32) =>
tw_lp (fun (k18 : (Int32 × Int32 × Int32 × tw_Sg) → Option (Int32 × tw_Sg)) (a17 : Int32 × Int32 × Int32 × tw_Sg) =>
if a17.1 ≤ a17.2.2.1 then (tw_lt (a17.2.1 + (1 : Int32)) (fun (v19 : Int32) =>
k11 (a17.1, v19, a17.2.2.2)))
else (tw_ck (tw_ok a17.2.1 (tw_ln 513)) (
tw_ck (tw_ok a17.2.2.1 (tw_ln 511)) (
tw_ck (tw_ok (a17.2.2.2 511 (Int32.toNatClampNeg a17.2.2.1)) (tw_ln 508)) (
tw_ck (tw_ok a17.2.2.1 (tw_ln (513 + 1 + 1 * Int32.toNatClampNeg a17.2.1))) (tw_lt (tw_up a17.2.2.2 (513 + 1 + 1 * Int32.toNatClampNeg a17.2.1) (Int32.toNatClampNeg a17.2.2.1) (a17.2.2.2 508 (Int32.toNatClampNeg (a17.2.2.2 511 (Int32.toNatClampNeg a17.2.2.1))))) (fun (σ21 : tw_Sg) =>
tw_lt (a17.2.2.1 + (1 : Int32)) (fun (v22 : Int32) =>
k18 (a17.1, a17.2.1, v22, σ21))))))))) n (a10.1, a10.2.1, v16, r15)))))) n (a6.1, v9, a6.2.2)))
else (tw_bd (tw_P_X12_isLeft n a6.2.1 a6.2.2) (fun r23 =>
tw_jn (fun (a24 : Int32 × tw_Sg) =>
tw_lt (a6.2.1 + (1 : Int32)) (fun (v26 : Int32) =>
k7 (a24.1, v26, a24.2))) (fun (j25 : (Int32 × tw_Sg) → Option (Int32 × tw_Sg)) =>
if ¬ r23.1 = 0 then (tw_ck (tw_ok a6.2.1 (tw_ln 508)) (
if ¬ (r23.2 508 (Int32.toNatClampNeg a6.2.1)) = (-1 : Int32) then (tw_ck (tw_ok a6.1 (tw_ln 511)) (tw_lt (tw_up r23.2 511 (Int32.toNatClampNeg a6.1) a6.2.1) (fun (σ27 : tw_Sg) =>
tw_ck (tw_ok a6.2.1 (tw_ln 508)) (
tw_ck (tw_ok a6.1 (tw_ln 512)) (tw_lt (tw_up σ27 512 (Int32.toNatClampNeg a6.1) (σ27 508 (Int32.toNatClampNeg a6.2.1))) (fun (σ28 : tw_Sg) =>
tw_lt (a6.1 + (1 : Int32)) (fun (v29 : Int32) =>
j25 (v29, σ28))))))))
else (some ((-1 : Int32), r23.2))))
else (j25 (a6.1, r23.2))))))) n (v2, v5, r4)))))
else (some ((-2 : Int32), r3.2)))))
theorem tw_y_X12_tour : tw_My yX12_tour cX12_tour 4 (some .int) 0 := ⟨List.mem_of_getElem? tw_w1659, List.mem_of_getElem? tw_w101, by decide +kernel, by decide +kernel, by decide +kernel⟩
theorem tw_v_X12_tour : tw_Mv yX12_tour "TreasureWalkModel" := ⟨List.mem_of_getElem? tw_w1657, List.mem_of_getElem? tw_w1658, rfl⟩
set_option maxRecDepth 100000 in
set_option maxHeartbeats 4000000 in
theorem tw_m_X12_tour {l : Launch} {B : Nat} {D : va_G} {C : Nat → ClassId} {S : Nat → Nat} {n : Nat}  {σ : tw_Sg}  {r : Int32 × tw_Sg} (h : tw_P_X12_tour n σ = some r) : tw_Met l B D C S yX12_tour cX12_tour 4 (some .int) ({ frames := 10, cells := 0, slots := 0, locals := 238 } : Room) [.ref (B + 442)] σ (some (.int r.1)) r.2 := by
  refine tw_metOfP (tw_P_X12_tour n σ) r h (fun r => (some (.int r.1), r.2)) (by decide +kernel) (Nat.le_of_ble_eq_true rfl) ⟨rfl, rfl⟩ ?_
  intro z el eB eD eC eS hfr hlo hcs X hret hQ
  subst el eB eD eC eS
  have X : tw_X z cX12_tour "TreasureWalkModel" 4 := X
  show tw_Rf z r _ σ 0 [(0, .ref (tw_zB z + 442))] []
  unfold tw_P_X12_tour
  refine r_aload_n X dX12_tour_0 rfl 0 rfl ?_
  refine r_iconst X dX12_tour_1 (v := (0 : Int32)) (by decide) ?_
  refine tw_s12_0 (k := 442) X dX12_tour_2 _ tw_w1252 tw_kc442 (fun σ1 => ?_)
  refine r_iconst X dX12_tour_5 (v := (0 : Int32)) (by decide) ?_
  refine r_istore_n X dX12_tour_6 rfl (by decide) (LL := fun v2 => [(1, .int v2), (0, .ref (tw_zB z + 442))]) (fun _ => rfl) (fun v2 => ?_)
  refine r_aload_n X dX12_tour_7 rfl 1 rfl ?_
  refine r_iconst X dX12_tour_8 (v := (1 : Int32)) (by decide) ?_
  refine r_bd (fun r3 hr3 => ?_)
  refine tw_c_X12_count X dX12_tour_9 _ tw_w1519  hr3 (tw_le hfr rfl) (tw_le hlo rfl) hcs (Nat.le_of_ble_eq_true rfl) trivial ?_
  refine r_bipush X dX12_tour_12 (v := (9 : Int32)) (by decide) ?_
  refine r_icmp_le X dX12_tour_14 (tgt := 20) (by decide) ?_ ?_
  ·
    refine r_aload_n X dX12_tour_20 rfl 1 rfl ?_
    refine r_aload_n X dX12_tour_21 rfl 1 rfl ?_
    refine tw_g12_8 (k := 442) (v := .ref (tw_zB z + 444)) X dX12_tour_22 _ tw_w1260 tw_kc442 rfl ?_
    refine r_iconst X dX12_tour_25 (v := (4 : Int32)) (by decide) ?_
    refine r_iald (k := 444) X dX12_tour_26 tw_kc444 ?_
    refine r_bd (fun r4 hr4 => ?_)
    refine tw_c_X12_layFar X dX12_tour_27 _ tw_w1648  hr4 (tw_le hfr rfl) (tw_le hlo rfl) hcs (Nat.le_of_ble_eq_true rfl) trivial ?_
    refine r_iconst X dX12_tour_30 (v := (0 : Int32)) (by decide) ?_
    refine r_istore_n X dX12_tour_31 rfl (by decide) (LL := fun v5 => [(2, .int v5), (1, .int v2), (0, .ref (tw_zB z + 442))]) (fun _ => rfl) (fun v5 => ?_)
    refine r_lp (α := Int32 × Int32 × tw_Sg) (σJ := fun a6 => a6.2.2) (pcJ := 32) (LJ := fun a6 => [(2, .int a6.2.1), (1, .int a6.1), (0, .ref (tw_zB z + 442))]) (stJ := fun a6 => []) (fun k7 hk7 a6 => ?_) n (v2, v5, r4)
    refine r_iload_n X dX12_tour_32 rfl 0 rfl ?_
    refine r_aload_n X dX12_tour_33 rfl 2 rfl ?_
    refine r_bd (fun r8 hr8 => ?_)
    refine tw_c_X12_cells X dX12_tour_34 _ tw_w1523  hr8 (tw_le hfr rfl) (tw_le hlo rfl) hcs (Nat.le_of_ble_eq_true rfl) trivial ?_
    refine r_icmp_ge X dX12_tour_37 (tgt := 91) (by decide) ?_ ?_
    ·
      refine r_iconst X dX12_tour_91 (v := (0 : Int32)) (by decide) ?_
      refine r_istore_n X dX12_tour_92 rfl (by decide) (LL := fun v9 => [(2, .int v9), (1, .int a6.1), (0, .ref (tw_zB z + 442))]) (fun _ => rfl) (fun v9 => ?_)
      refine r_lp (α := Int32 × Int32 × tw_Sg) (σJ := fun a10 => a10.2.2) (pcJ := 93) (LJ := fun a10 => [(2, .int a10.2.1), (1, .int a10.1), (0, .ref (tw_zB z + 442))]) (stJ := fun a10 => []) (fun k11 hk11 a10 => ?_) n (a6.1, v9, a6.2.2)
      refine r_iload_n X dX12_tour_93 rfl 0 rfl ?_
      refine r_iload_n X dX12_tour_94 rfl 1 rfl ?_
      refine r_icmp_ge X dX12_tour_95 (tgt := 146) (by decide) ?_ ?_
      ·
        refine r_iload_n X dX12_tour_146 rfl 1 rfl ?_
        refine r_jn (α := Int32 × tw_Sg) (σJ := fun a12 => a12.2) (pcJ := 159) (LJ := fun a12 => []) (stJ := fun a12 => [.int a12.1]) (ok := fun a12 => True) (fun a12 hoka12 => ?_) (fun j13 hj13 => ?_)
        ·
          exact r_iret X dX12_tour_159 hret hQ rfl
        refine r_if_ne X dX12_tour_147 (tgt := 154) (by decide) ?_ ?_
        ·
          refine r_aload_n X dX12_tour_154 rfl 2 rfl ?_
          refine r_iload_n X dX12_tour_155 rfl 1 rfl ?_
          refine r_bd (fun r14 hr14 => ?_)
          refine tw_c_X12_shortest X dX12_tour_156 _ tw_w1660  hr14 (tw_le hfr rfl) (tw_le hlo rfl) hcs (Nat.le_of_ble_eq_true rfl) trivial ?_
          exact tw_Rf.sub [] rfl (hj13 (r14.1, r14.2) trivial)
        ·
          refine r_iconst X dX12_tour_150 (v := (0 : Int32)) (by decide) ?_
          refine r_goto X dX12_tour_151 (tgt := 159) (by decide) ?_
          exact tw_Rf.sub [] rfl (hj13 ((0 : Int32), a10.2.2) trivial)
      ·
        refine r_aload_n X dX12_tour_98 rfl 2 rfl ?_
        refine r_aload_n X dX12_tour_99 rfl 2 rfl ?_
        refine tw_g12_27 (k := 442) (v := .ref (tw_zB z + 511)) X dX12_tour_100 _ tw_w1279 tw_kc442 rfl ?_
        refine r_iload_n X dX12_tour_103 rfl 0 rfl ?_
        refine r_iald (k := 511) X dX12_tour_104 tw_kc511 ?_
        refine r_bd (fun r15 hr15 => ?_)
        refine tw_c_X12_layFar X dX12_tour_105 _ tw_w1648  hr15 (tw_le hfr rfl) (tw_le hlo rfl) hcs (Nat.le_of_ble_eq_true rfl) trivial ?_
        refine r_iconst X dX12_tour_108 (v := (0 : Int32)) (by decide) ?_
        refine r_istore_n X dX12_tour_109 rfl (by decide) (LL := fun v16 => [(3, .int v16), (2, .int a10.2.1), (1, .int a10.1), (0, .ref (tw_zB z + 442))]) (fun _ => rfl) (fun v16 => ?_)
        refine r_lp (α := Int32 × Int32 × Int32 × tw_Sg) (σJ := fun a17 => a17.2.2.2) (pcJ := 110) (LJ := fun a17 => [(3, .int a17.2.2.1), (2, .int a17.2.1), (1, .int a17.1), (0, .ref (tw_zB z + 442))]) (stJ := fun a17 => []) (fun k18 hk18 a17 => ?_) n (a10.1, a10.2.1, v16, r15)
        refine r_iload_n X dX12_tour_110 rfl 0 rfl ?_
        refine r_iload_n X dX12_tour_111 rfl 2 rfl ?_
        refine r_icmp_ge X dX12_tour_112 (tgt := 140) (by decide) ?_ ?_
        ·
          refine r_iinc X dX12_tour_140 1 rfl (v := (1 : Int32)) (by decide) (by decide) (LL := fun v19 => [(2, .int v19), (3, .int a17.2.2.1), (1, .int a17.1), (0, .ref (tw_zB z + 442))]) (fun _ => rfl) (fun v19 => ?_)
          refine r_goto X dX12_tour_143 (tgt := 93) (by decide) ?_
          exact tw_Rf.sub [0, 2, 3] rfl (hk11 (a17.1, v19, a17.2.2.2))
        ·
          refine r_aload_n X dX12_tour_115 rfl 3 rfl ?_
          refine tw_g12_29 (k := 442) (v := .ref (tw_zB z + 513)) X dX12_tour_116 _ tw_w1281 tw_kc442 rfl ?_
          refine r_iload_n X dX12_tour_119 rfl 1 rfl ?_
          refine r_aald (k := 513) (r := 513 + 1 + 1 * Int32.toNatClampNeg a17.2.1) X dX12_tour_120 (tw_kd_lt tw_kc513 (by decide)) (tw_E17 tw_kc513) rfl rfl rfl (fun h20 => ?_)
          refine r_iload_n X dX12_tour_121 rfl 0 rfl ?_
          refine r_aload_n X dX12_tour_122 rfl 3 rfl ?_
          refine tw_g12_24 (k := 442) (v := .ref (tw_zB z + 508)) X dX12_tour_123 _ tw_w1276 tw_kc442 rfl ?_
          refine r_aload_n X dX12_tour_126 rfl 3 rfl ?_
          refine tw_g12_27 (k := 442) (v := .ref (tw_zB z + 511)) X dX12_tour_127 _ tw_w1279 tw_kc442 rfl ?_
          refine r_iload_n X dX12_tour_130 rfl 0 rfl ?_
          refine r_iald (k := 511) X dX12_tour_131 tw_kc511 ?_
          refine r_iald (k := 508) X dX12_tour_132 tw_kc508 ?_
          refine r_iast (k := (513 + 1 + 1 * Int32.toNatClampNeg a17.2.1)) X dX12_tour_133 (tw_ke17 tw_kc513 (tw_ok_lt h20)) (fun σ21 => ?_)
          refine r_iinc X dX12_tour_134 0 rfl (v := (1 : Int32)) (by decide) (by decide) (LL := fun v22 => [(3, .int v22), (2, .int a17.2.1), (1, .int a17.1), (0, .ref (tw_zB z + 442))]) (fun _ => rfl) (fun v22 => ?_)
          refine r_goto X dX12_tour_137 (tgt := 110) (by decide) ?_
          exact hk18 (a17.1, a17.2.1, v22, σ21)
    ·
      refine r_aload_n X dX12_tour_40 rfl 2 rfl ?_
      refine r_iload_n X dX12_tour_41 rfl 0 rfl ?_
      refine r_bd (fun r23 hr23 => ?_)
      refine tw_c_X12_isLeft X dX12_tour_42 _ tw_w1584  hr23 (tw_le hfr rfl) (tw_le hlo rfl) hcs (Nat.le_of_ble_eq_true rfl) trivial ?_
      refine r_jn (α := Int32 × tw_Sg) (σJ := fun a24 => a24.2) (pcJ := 85) (LJ := fun a24 => [(2, .int a6.2.1), (1, .int a24.1), (0, .ref (tw_zB z + 442))]) (stJ := fun a24 => []) (ok := fun a24 => True) (fun a24 hoka24 => ?_) (fun j25 hj25 => ?_)
      ·
        refine r_iinc X dX12_tour_85 0 rfl (v := (1 : Int32)) (by decide) (by decide) (LL := fun v26 => [(2, .int v26), (1, .int a24.1), (0, .ref (tw_zB z + 442))]) (fun _ => rfl) (fun v26 => ?_)
        refine r_goto X dX12_tour_88 (tgt := 32) (by decide) ?_
        exact hk7 (a24.1, v26, a24.2)
      refine r_if_ne X dX12_tour_45 (tgt := 51) (by decide) ?_ ?_
      ·
        refine r_aload_n X dX12_tour_51 rfl 2 rfl ?_
        refine tw_g12_24 (k := 442) (v := .ref (tw_zB z + 508)) X dX12_tour_52 _ tw_w1276 tw_kc442 rfl ?_
        refine r_iload_n X dX12_tour_55 rfl 0 rfl ?_
        refine r_iald (k := 508) X dX12_tour_56 tw_kc508 ?_
        refine r_iconst X dX12_tour_57 (v := (-1 : Int32)) (by decide) ?_
        refine r_icmp_ne X dX12_tour_58 (tgt := 63) (by decide) ?_ ?_
        ·
          refine r_aload_n X dX12_tour_63 rfl 2 rfl ?_
          refine tw_g12_27 (k := 442) (v := .ref (tw_zB z + 511)) X dX12_tour_64 _ tw_w1279 tw_kc442 rfl ?_
          refine r_iload_n X dX12_tour_67 rfl 1 rfl ?_
          refine r_iload_n X dX12_tour_68 rfl 0 rfl ?_
          refine r_iast (k := 511) X dX12_tour_69 tw_kc511 (fun σ27 => ?_)
          refine r_aload_n X dX12_tour_70 rfl 2 rfl ?_
          refine tw_g12_28 (k := 442) (v := .ref (tw_zB z + 512)) X dX12_tour_71 _ tw_w1280 tw_kc442 rfl ?_
          refine r_iload_n X dX12_tour_74 rfl 1 rfl ?_
          refine r_aload_n X dX12_tour_75 rfl 2 rfl ?_
          refine tw_g12_24 (k := 442) (v := .ref (tw_zB z + 508)) X dX12_tour_76 _ tw_w1276 tw_kc442 rfl ?_
          refine r_iload_n X dX12_tour_79 rfl 0 rfl ?_
          refine r_iald (k := 508) X dX12_tour_80 tw_kc508 ?_
          refine r_iast (k := 512) X dX12_tour_81 tw_kc512 (fun σ28 => ?_)
          refine r_iinc X dX12_tour_82 1 rfl (v := (1 : Int32)) (by decide) (by decide) (LL := fun v29 => [(1, .int v29), (2, .int a6.2.1), (0, .ref (tw_zB z + 442))]) (fun _ => rfl) (fun v29 => ?_)
          exact tw_Rf.sub [1, 0, 2] rfl (hj25 (v29, σ28) trivial)
        ·
          refine r_iconst X dX12_tour_61 (v := (-1 : Int32)) (by decide) ?_
          exact r_iret X dX12_tour_62 hret hQ rfl
      ·
        refine r_goto X dX12_tour_48 (tgt := 85) (by decide) ?_
        exact hj25 (a6.1, r23.2) trivial
  ·
    refine r_bipush X dX12_tour_17 (v := (-2 : Int32)) (by decide) ?_
    exact r_iret X dX12_tour_19 hret hQ rfl
theorem tw_c_X12_tour {ρ : Type} {z : tw_Z} {cc : ByteArray} {own : String} {nL pc : Nat} {σ : tw_Sg} {L : List (Nat × Value)} {st : List Value} {ix : Nat} {n : Nat}  (X : tw_X z cc own nL) (d : decode cc pc = .ok (.invokevirtual ix, 3)) (i : Nat) (hi : lw_tbl[i]? = some (.methodLink own ix yX12_tour))  {res : ρ} {E : Option ρ} {r : Int32 × tw_Sg} (h : tw_P_X12_tour n σ = some r) (h1 : 11 ≤ (tw_zR z).frames) (h2 : 261 ≤ (tw_zR z).locals) (hcs : tw_zcells z ≤ (tw_zR z).cells ∧ tw_zslots z ≤ (tw_zR z).slots) (hst : (st.map fun v => v.category).sum ≤ 8) (_ : True) (kk : tw_Rf z res E r.2 (pc + 3) L (.int r.1 :: st)) : tw_Rf z res E σ pc L (.ref (tw_zB z + 442) :: st) := r_callV (As := []) X d (tw_m_X12_tour  h) tw_y_X12_tour tw_v_X12_tour i hi rfl (tw_kd_lt tw_kc442 (by decide)) (tw_E12 tw_kc442) rfl ⟨rfl, rfl, h1, h2⟩ hcs hst rfl kk
def tw_P_X12_part (n : Nat) (x0 : Int32) (x1 : Int32) (σ : tw_Sg) : Option (Int32 × tw_Sg) :=
tw_lt (tw_up σ 442 0 (0 : Int32)) (fun (σ1 : tw_Sg) =>
tw_bd (tw_P_X12_noCell x0 x1 σ1) (fun r2 =>
if r2.1 = 0 then (tw_bd (tw_P_X12_layParts n r2.2) (fun r3 =>
tw_bd (tw_P_X12_cellAt x0 x1 r3.2) (fun r4 =>
tw_ck (tw_ok r4 (tw_ln 510)) (
tw_lt (r3.2 510 (Int32.toNatClampNeg r4)) (fun (v5 : Int32) =>
tw_lt (0 : Int32) (fun (v6 : Int32) =>
tw_lt (0 : Int32) (fun (v7 : Int32) =>
tw_lp (fun (k9 : (Int32 × Int32) → Option (Int32 × tw_Sg)) (a8 : Int32 × Int32) =>
tw_bd (tw_P_X12_cells r3.2) (fun r10 =>
if r10 ≤ a8.2 then (some (a8.1, r3.2))
else (tw_jn (fun (a11 : Int32) =>
tw_lt (a8.1 + a11) (fun (v13 : Int32) =>
tw_lt (a8.2 + (1 : Int32)) (fun (v14 : Int32) =>
k9 (v13, v14)))) (fun (j12 : (Int32) → Option (Int32 × tw_Sg)) =>
tw_jn (fun (a15 : Unit) =>
j12 (0 : Int32)) (fun (j16 : (Unit) → Option (Int32 × tw_Sg)) =>
if v5 = (-1 : Int32) then (j16 ())
else (tw_ck (tw_ok a8.2 (tw_ln 510)) (
if ¬ (r3.2 510 (Int32.toNatClampNeg a8.2)) = v5 then (j16 ())
else (j12 (1 : Int32))))))))) n (v6, v7))))))))
else (some ((0 : Int32), r2.2))))
theorem tw_y_X12_part : tw_My yX12_part cX12_part 6 (some .int) 2 := ⟨List.mem_of_getElem? tw_w1668, List.mem_of_getElem? tw_w101, by decide +kernel, by decide +kernel, by decide +kernel⟩
theorem tw_v_X12_part : tw_Mv yX12_part "TreasureWalkModel" := ⟨List.mem_of_getElem? tw_w1666, List.mem_of_getElem? tw_w1667, rfl⟩
set_option maxRecDepth 100000 in
set_option maxHeartbeats 4000000 in
theorem tw_m_X12_part {l : Launch} {B : Nat} {D : va_G} {C : Nat → ClassId} {S : Nat → Nat} {n : Nat} {x0 : Int32} {x1 : Int32} {σ : tw_Sg}  {r : Int32 × tw_Sg} (h : tw_P_X12_part n x0 x1 σ = some r) : tw_Met l B D C S yX12_part cX12_part 6 (some .int) ({ frames := 10, cells := 0, slots := 0, locals := 241 } : Room) [.ref (B + 442), .int x0, .int x1] σ (some (.int r.1)) r.2 := by
  refine tw_metOfP (tw_P_X12_part n x0 x1 σ) r h (fun r => (some (.int r.1), r.2)) (by decide +kernel) (Nat.le_of_ble_eq_true rfl) ⟨rfl, rfl⟩ ?_
  intro z el eB eD eC eS hfr hlo hcs X hret hQ
  subst el eB eD eC eS
  have X : tw_X z cX12_part "TreasureWalkModel" 6 := X
  show tw_Rf z r _ σ 0 [(0, .ref (tw_zB z + 442)), (1, .int x0), (2, .int x1)] []
  unfold tw_P_X12_part
  refine r_aload_n X dX12_part_0 rfl 0 rfl ?_
  refine r_iconst X dX12_part_1 (v := (0 : Int32)) (by decide) ?_
  refine tw_s12_0 (k := 442) X dX12_part_2 _ tw_w1252 tw_kc442 (fun σ1 => ?_)
  refine r_aload_n X dX12_part_5 rfl 0 rfl ?_
  refine r_iload_n X dX12_part_6 rfl 1 rfl ?_
  refine r_iload_n X dX12_part_7 rfl 2 rfl ?_
  refine r_bd (fun r2 hr2 => ?_)
  refine tw_c_X12_noCell X dX12_part_8 _ tw_w1596  hr2 (tw_le hfr rfl) (tw_le hlo rfl) hcs (Nat.le_of_ble_eq_true rfl) trivial ?_
  refine r_if_eq X dX12_part_11 (tgt := 16) (by decide) ?_ ?_
  ·
    refine r_aload_n X dX12_part_16 rfl 0 rfl ?_
    refine r_bd (fun r3 hr3 => ?_)
    refine tw_c_X12_layParts X dX12_part_17 _ tw_w1588  hr3 (tw_le hfr rfl) (tw_le hlo rfl) hcs (Nat.le_of_ble_eq_true rfl) trivial ?_
    refine r_pop X dX12_part_20 rfl ?_
    refine r_aload_n X dX12_part_21 rfl 0 rfl ?_
    refine tw_g12_26 (k := 442) (v := .ref (tw_zB z + 510)) X dX12_part_22 _ tw_w1278 tw_kc442 rfl ?_
    refine r_aload_n X dX12_part_25 rfl 0 rfl ?_
    refine r_iload_n X dX12_part_26 rfl 1 rfl ?_
    refine r_iload_n X dX12_part_27 rfl 2 rfl ?_
    refine r_bd (fun r4 hr4 => ?_)
    refine tw_c_X12_cellAt X dX12_part_28 _ tw_w1576  hr4 (tw_le hfr rfl) (tw_le hlo rfl) hcs (Nat.le_of_ble_eq_true rfl) trivial ?_
    refine r_iald (k := 510) X dX12_part_31 tw_kc510 ?_
    refine r_istore_n X dX12_part_32 rfl (by decide) (LL := fun v5 => [(3, .int v5), (0, .ref (tw_zB z + 442)), (1, .int x0), (2, .int x1)]) (fun _ => rfl) (fun v5 => ?_)
    refine r_iconst X dX12_part_33 (v := (0 : Int32)) (by decide) ?_
    refine r_istore X dX12_part_34 (by decide) (LL := fun v6 => [(4, .int v6), (3, .int v5), (0, .ref (tw_zB z + 442)), (1, .int x0), (2, .int x1)]) (fun _ => rfl) (fun v6 => ?_)
    refine r_iconst X dX12_part_36 (v := (0 : Int32)) (by decide) ?_
    refine r_istore X dX12_part_37 (by decide) (LL := fun v7 => [(5, .int v7), (4, .int v6), (3, .int v5), (0, .ref (tw_zB z + 442)), (1, .int x0), (2, .int x1)]) (fun _ => rfl) (fun v7 => ?_)
    refine tw_Rf.sub [0, 1, 2, 3] rfl ?_
    refine r_lp (α := Int32 × Int32) (σJ := fun a8 => r3.2) (pcJ := 39) (LJ := fun a8 => [(5, .int a8.2), (4, .int a8.1), (3, .int v5), (0, .ref (tw_zB z + 442))]) (stJ := fun a8 => []) (fun k9 hk9 a8 => ?_) n (v6, v7)
    refine r_iload X dX12_part_39 0 rfl ?_
    refine r_aload_n X dX12_part_41 rfl 3 rfl ?_
    refine r_bd (fun r10 hr10 => ?_)
    refine tw_c_X12_cells X dX12_part_42 _ tw_w1523  hr10 (tw_le hfr rfl) (tw_le hlo rfl) hcs (Nat.le_of_ble_eq_true rfl) trivial ?_
    refine r_icmp_ge X dX12_part_45 (tgt := 80) (by decide) ?_ ?_
    ·
      refine r_iload X dX12_part_80 1 rfl ?_
      exact r_iret X dX12_part_82 hret hQ rfl
    ·
      refine r_iload X dX12_part_48 1 rfl ?_
      refine r_iload_n X dX12_part_50 rfl 2 rfl ?_
      refine r_iconst X dX12_part_51 (v := (-1 : Int32)) (by decide) ?_
      refine r_jn (α := Int32) (σJ := fun a11 => r3.2) (pcJ := 71) (LJ := fun a11 => [(5, .int a8.2), (3, .int v5), (0, .ref (tw_zB z + 442))]) (stJ := fun a11 => [.int a11, .int a8.1]) (ok := fun a11 => True) (fun a11 hoka11 => ?_) (fun j12 hj12 => ?_)
      ·
        refine r_iadd X dX12_part_71 ?_
        refine r_istore X dX12_part_72 (by decide) (LL := fun v13 => [(4, .int v13), (5, .int a8.2), (3, .int v5), (0, .ref (tw_zB z + 442))]) (fun _ => rfl) (fun v13 => ?_)
        refine r_iinc X dX12_part_74 1 rfl (v := (1 : Int32)) (by decide) (by decide) (LL := fun v14 => [(5, .int v14), (4, .int v13), (3, .int v5), (0, .ref (tw_zB z + 442))]) (fun _ => rfl) (fun v14 => ?_)
        refine r_goto X dX12_part_77 (tgt := 39) (by decide) ?_
        exact hk9 (v13, v14)
      refine r_jn (α := Unit) (σJ := fun a15 => r3.2) (pcJ := 70) (LJ := fun a15 => [(5, .int a8.2), (3, .int v5), (0, .ref (tw_zB z + 442))]) (stJ := fun a15 => [.int a8.1]) (ok := fun a15 => True) (fun a15 hoka15 => ?_) (fun j16 hj16 => ?_)
      ·
        refine r_iconst X dX12_part_70 (v := (0 : Int32)) (by decide) ?_
        exact hj12 (0 : Int32) trivial
      refine r_icmp_eq X dX12_part_52 (tgt := 70) (by decide) ?_ ?_
      ·
        exact tw_Rf.sub [0, 2, 3] rfl (hj16 () trivial)
      ·
        refine r_aload_n X dX12_part_55 rfl 3 rfl ?_
        refine tw_g12_26 (k := 442) (v := .ref (tw_zB z + 510)) X dX12_part_56 _ tw_w1278 tw_kc442 rfl ?_
        refine r_iload X dX12_part_59 0 rfl ?_
        refine r_iald (k := 510) X dX12_part_61 tw_kc510 ?_
        refine r_iload_n X dX12_part_62 rfl 2 rfl ?_
        refine r_icmp_ne X dX12_part_63 (tgt := 70) (by decide) ?_ ?_
        ·
          exact tw_Rf.sub [0, 2, 3] rfl (hj16 () trivial)
        ·
          refine r_iconst X dX12_part_66 (v := (1 : Int32)) (by decide) ?_
          refine r_goto X dX12_part_67 (tgt := 71) (by decide) ?_
          exact tw_Rf.sub [0, 2, 3] rfl (hj12 (1 : Int32) trivial)
  ·
    refine r_iconst X dX12_part_14 (v := (0 : Int32)) (by decide) ?_
    exact r_iret X dX12_part_15 hret hQ rfl
theorem tw_c_X12_part {ρ : Type} {z : tw_Z} {cc : ByteArray} {own : String} {nL pc : Nat} {σ : tw_Sg} {L : List (Nat × Value)} {st : List Value} {ix : Nat} {n : Nat} {x0 : Int32} {x1 : Int32} (X : tw_X z cc own nL) (d : decode cc pc = .ok (.invokevirtual ix, 3)) (i : Nat) (hi : lw_tbl[i]? = some (.methodLink own ix yX12_part))  {res : ρ} {E : Option ρ} {r : Int32 × tw_Sg} (h : tw_P_X12_part n x0 x1 σ = some r) (h1 : 11 ≤ (tw_zR z).frames) (h2 : 266 ≤ (tw_zR z).locals) (hcs : tw_zcells z ≤ (tw_zR z).cells ∧ tw_zslots z ≤ (tw_zR z).slots) (hst : (st.map fun v => v.category).sum ≤ 8) (_ : True) (kk : tw_Rf z res E r.2 (pc + 3) L (.int r.1 :: st)) : tw_Rf z res E σ pc L (.int x1 :: .int x0 :: .ref (tw_zB z + 442) :: st) := r_callV (As := [.int x0, .int x1]) X d (tw_m_X12_part  h) tw_y_X12_part tw_v_X12_part i hi rfl (tw_kd_lt tw_kc442 (by decide)) (tw_E12 tw_kc442) rfl ⟨rfl, rfl, h1, h2⟩ hcs hst rfl kk
def tw_P_X12_meanDistance (n : Nat)  (σ : tw_Sg) : Option (UInt64 × tw_Sg) :=
tw_lt (tw_up σ 442 0 (0 : Int32)) (fun (σ1 : tw_Sg) =>
tw_ck (tw_ok (4 : Int32) (tw_ln 444)) (
tw_bd (tw_P_X12_layFar n (σ1 444 (Int32.toNatClampNeg (4 : Int32))) σ1) (fun r2 =>
tw_lt (0 : Int32) (fun (v3 : Int32) =>
tw_lt (0 : Int32) (fun (v4 : Int32) =>
tw_lt (0 : Int32) (fun (v5 : Int32) =>
tw_lp (fun (k7 : (Int32 × Int32 × Int32 × tw_Sg) → Option (UInt64 × tw_Sg)) (a6 : Int32 × Int32 × Int32 × tw_Sg) =>
tw_bd (tw_P_X12_cells a6.2.2.2) (fun r8 =>
if r8 ≤ a6.2.2.1 then (tw_jn (fun (a9 : UInt64) =>
some (a9, a6.2.2.2)) (fun (j10 : (UInt64) → Option (UInt64 × tw_Sg)) =>
if ¬ a6.1 = 0 then (tw_ck (tw_nn (FP.ddiv (FP.i2d a6.2.1) (FP.i2d a6.1))) (
j10 (FP.ddiv (FP.i2d a6.2.1) (FP.i2d a6.1))))
else (j10 FP.dconst0)))
else (tw_bd (tw_P_X12_isLeft n a6.2.2.1 a6.2.2.2) (fun r11 =>
tw_jn (fun (a12 : Int32 × Int32) =>
tw_lt (a6.2.2.1 + (1 : Int32)) (fun (v14 : Int32) =>
k7 (a12.1, a12.2, v14, r11.2))) (fun (j13 : (Int32 × Int32) → Option (UInt64 × tw_Sg)) =>
if r11.1 = 0 then (j13 (a6.1, a6.2.1))
else (tw_ck (tw_ok a6.2.2.1 (tw_ln 508)) (
if ¬ (r11.2 508 (Int32.toNatClampNeg a6.2.2.1)) = (-1 : Int32) then (tw_lt (a6.1 + (1 : Int32)) (fun (v15 : Int32) =>
tw_ck (tw_ok a6.2.2.1 (tw_ln 508)) (
tw_lt (a6.2.1 + (r11.2 508 (Int32.toNatClampNeg a6.2.2.1))) (fun (v16 : Int32) =>
j13 (v15, v16)))))
else (j13 (a6.1, a6.2.1))))))))) n (v3, v4, v5, r2)))))))
theorem tw_y_X12_meanDistance : tw_My yX12_meanDistance cX12_meanDistance 4 (some .double) 0 := ⟨List.mem_of_getElem? tw_w1672, List.mem_of_getElem? tw_w101, by decide +kernel, by decide +kernel, by decide +kernel⟩
theorem tw_v_X12_meanDistance : tw_Mv yX12_meanDistance "TreasureWalkModel" := ⟨List.mem_of_getElem? tw_w1670, List.mem_of_getElem? tw_w1671, rfl⟩
set_option maxRecDepth 100000 in
set_option maxHeartbeats 4000000 in
theorem tw_m_X12_meanDistance {l : Launch} {B : Nat} {D : va_G} {C : Nat → ClassId} {S : Nat → Nat} {n : Nat}  {σ : tw_Sg}  {r : UInt64 × tw_Sg} (h : tw_P_X12_meanDistance n σ = some r) : tw_Met l B D C S yX12_meanDistance cX12_meanDistance 4 (some .double) ({ frames := 9, cells := 0, slots := 0, locals := 215 } : Room) [.ref (B + 442)] σ (some (.double r.1)) r.2 := by
  refine tw_metOfP (tw_P_X12_meanDistance n σ) r h (fun r => (some (.double r.1), r.2)) (by decide +kernel) (Nat.le_of_ble_eq_true rfl) ⟨rfl, rfl⟩ ?_
  intro z el eB eD eC eS hfr hlo hcs X hret hQ
  subst el eB eD eC eS
  have X : tw_X z cX12_meanDistance "TreasureWalkModel" 4 := X
  show tw_Rf z r _ σ 0 [(0, .ref (tw_zB z + 442))] []
  unfold tw_P_X12_meanDistance
  refine r_aload_n X dX12_meanDistance_0 rfl 0 rfl ?_
  refine r_iconst X dX12_meanDistance_1 (v := (0 : Int32)) (by decide) ?_
  refine tw_s12_0 (k := 442) X dX12_meanDistance_2 _ tw_w1252 tw_kc442 (fun σ1 => ?_)
  refine r_aload_n X dX12_meanDistance_5 rfl 0 rfl ?_
  refine r_aload_n X dX12_meanDistance_6 rfl 0 rfl ?_
  refine tw_g12_8 (k := 442) (v := .ref (tw_zB z + 444)) X dX12_meanDistance_7 _ tw_w1260 tw_kc442 rfl ?_
  refine r_iconst X dX12_meanDistance_10 (v := (4 : Int32)) (by decide) ?_
  refine r_iald (k := 444) X dX12_meanDistance_11 tw_kc444 ?_
  refine r_bd (fun r2 hr2 => ?_)
  refine tw_c_X12_layFar X dX12_meanDistance_12 _ tw_w1648  hr2 (tw_le hfr rfl) (tw_le hlo rfl) hcs (Nat.le_of_ble_eq_true rfl) trivial ?_
  refine r_iconst X dX12_meanDistance_15 (v := (0 : Int32)) (by decide) ?_
  refine r_istore_n X dX12_meanDistance_16 rfl (by decide) (LL := fun v3 => [(1, .int v3), (0, .ref (tw_zB z + 442))]) (fun _ => rfl) (fun v3 => ?_)
  refine r_iconst X dX12_meanDistance_17 (v := (0 : Int32)) (by decide) ?_
  refine r_istore_n X dX12_meanDistance_18 rfl (by decide) (LL := fun v4 => [(2, .int v4), (1, .int v3), (0, .ref (tw_zB z + 442))]) (fun _ => rfl) (fun v4 => ?_)
  refine r_iconst X dX12_meanDistance_19 (v := (0 : Int32)) (by decide) ?_
  refine r_istore_n X dX12_meanDistance_20 rfl (by decide) (LL := fun v5 => [(3, .int v5), (2, .int v4), (1, .int v3), (0, .ref (tw_zB z + 442))]) (fun _ => rfl) (fun v5 => ?_)
  refine r_lp (α := Int32 × Int32 × Int32 × tw_Sg) (σJ := fun a6 => a6.2.2.2) (pcJ := 21) (LJ := fun a6 => [(3, .int a6.2.2.1), (2, .int a6.2.1), (1, .int a6.1), (0, .ref (tw_zB z + 442))]) (stJ := fun a6 => []) (fun k7 hk7 a6 => ?_) n (v3, v4, v5, r2)
  refine r_iload_n X dX12_meanDistance_21 rfl 0 rfl ?_
  refine r_aload_n X dX12_meanDistance_22 rfl 3 rfl ?_
  refine r_bd (fun r8 hr8 => ?_)
  refine tw_c_X12_cells X dX12_meanDistance_23 _ tw_w1523  hr8 (tw_le hfr rfl) (tw_le hlo rfl) hcs (Nat.le_of_ble_eq_true rfl) trivial ?_
  refine r_icmp_ge X dX12_meanDistance_26 (tgt := 68) (by decide) ?_ ?_
  ·
    refine r_iload_n X dX12_meanDistance_68 rfl 2 rfl ?_
    refine r_jn (α := UInt64) (σJ := fun a9 => a6.2.2.2) (pcJ := 81) (LJ := fun a9 => []) (stJ := fun a9 => [.double a9]) (ok := fun a9 => True) (fun a9 hoka9 => ?_) (fun j10 hj10 => ?_)
    ·
      exact r_dret X dX12_meanDistance_81 hret hQ rfl
    refine r_if_ne X dX12_meanDistance_69 (tgt := 76) (by decide) ?_ ?_
    ·
      refine r_iload_n X dX12_meanDistance_76 rfl 1 rfl ?_
      refine r_i2d X dX12_meanDistance_77 ?_
      refine r_iload_n X dX12_meanDistance_78 rfl 2 rfl ?_
      refine r_i2d X dX12_meanDistance_79 ?_
      refine r_ddiv X dX12_meanDistance_80 ?_
      exact tw_Rf.sub [] rfl (hj10 (FP.ddiv (FP.i2d a6.2.1) (FP.i2d a6.1)) trivial)
    ·
      refine r_dconst0 X dX12_meanDistance_72 ?_
      refine r_goto X dX12_meanDistance_73 (tgt := 81) (by decide) ?_
      exact tw_Rf.sub [] rfl (hj10 FP.dconst0 trivial)
  ·
    refine r_aload_n X dX12_meanDistance_29 rfl 3 rfl ?_
    refine r_iload_n X dX12_meanDistance_30 rfl 0 rfl ?_
    refine r_bd (fun r11 hr11 => ?_)
    refine tw_c_X12_isLeft X dX12_meanDistance_31 _ tw_w1584  hr11 (tw_le hfr rfl) (tw_le hlo rfl) hcs (Nat.le_of_ble_eq_true rfl) trivial ?_
    refine r_jn (α := Int32 × Int32) (σJ := fun a12 => r11.2) (pcJ := 62) (LJ := fun a12 => [(3, .int a6.2.2.1), (2, .int a12.2), (1, .int a12.1), (0, .ref (tw_zB z + 442))]) (stJ := fun a12 => []) (ok := fun a12 => True) (fun a12 hoka12 => ?_) (fun j13 hj13 => ?_)
    ·
      refine r_iinc X dX12_meanDistance_62 0 rfl (v := (1 : Int32)) (by decide) (by decide) (LL := fun v14 => [(3, .int v14), (2, .int a12.2), (1, .int a12.1), (0, .ref (tw_zB z + 442))]) (fun _ => rfl) (fun v14 => ?_)
      refine r_goto X dX12_meanDistance_65 (tgt := 21) (by decide) ?_
      exact hk7 (a12.1, a12.2, v14, r11.2)
    refine r_if_eq X dX12_meanDistance_34 (tgt := 62) (by decide) ?_ ?_
    ·
      exact hj13 (a6.1, a6.2.1) trivial
    ·
      refine r_aload_n X dX12_meanDistance_37 rfl 3 rfl ?_
      refine tw_g12_24 (k := 442) (v := .ref (tw_zB z + 508)) X dX12_meanDistance_38 _ tw_w1276 tw_kc442 rfl ?_
      refine r_iload_n X dX12_meanDistance_41 rfl 0 rfl ?_
      refine r_iald (k := 508) X dX12_meanDistance_42 tw_kc508 ?_
      refine r_iconst X dX12_meanDistance_43 (v := (-1 : Int32)) (by decide) ?_
      refine r_icmp_ne X dX12_meanDistance_44 (tgt := 50) (by decide) ?_ ?_
      ·
        refine r_iinc X dX12_meanDistance_50 2 rfl (v := (1 : Int32)) (by decide) (by decide) (LL := fun v15 => [(1, .int v15), (3, .int a6.2.2.1), (2, .int a6.2.1), (0, .ref (tw_zB z + 442))]) (fun _ => rfl) (fun v15 => ?_)
        refine r_iload_n X dX12_meanDistance_53 rfl 2 rfl ?_
        refine r_aload_n X dX12_meanDistance_54 rfl 3 rfl ?_
        refine tw_g12_24 (k := 442) (v := .ref (tw_zB z + 508)) X dX12_meanDistance_55 _ tw_w1276 tw_kc442 rfl ?_
        refine r_iload_n X dX12_meanDistance_58 rfl 1 rfl ?_
        refine r_iald (k := 508) X dX12_meanDistance_59 tw_kc508 ?_
        refine r_iadd X dX12_meanDistance_60 ?_
        refine r_istore_n X dX12_meanDistance_61 rfl (by decide) (LL := fun v16 => [(2, .int v16), (1, .int v15), (3, .int a6.2.2.1), (0, .ref (tw_zB z + 442))]) (fun _ => rfl) (fun v16 => ?_)
        exact tw_Rf.sub [2, 0, 1, 3] rfl (hj13 (v15, v16) trivial)
      ·
        refine r_goto X dX12_meanDistance_47 (tgt := 62) (by decide) ?_
        exact hj13 (a6.1, a6.2.1) trivial
theorem tw_c_X12_meanDistance {ρ : Type} {z : tw_Z} {cc : ByteArray} {own : String} {nL pc : Nat} {σ : tw_Sg} {L : List (Nat × Value)} {st : List Value} {ix : Nat} {n : Nat}  (X : tw_X z cc own nL) (d : decode cc pc = .ok (.invokevirtual ix, 3)) (i : Nat) (hi : lw_tbl[i]? = some (.methodLink own ix yX12_meanDistance))  {res : ρ} {E : Option ρ} {r : UInt64 × tw_Sg} (h : tw_P_X12_meanDistance n σ = some r) (h1 : 10 ≤ (tw_zR z).frames) (h2 : 238 ≤ (tw_zR z).locals) (hcs : tw_zcells z ≤ (tw_zR z).cells ∧ tw_zslots z ≤ (tw_zR z).slots) (hst : (st.map fun v => v.category).sum ≤ 8) (_ : True) (kk : tw_Rf z res E r.2 (pc + 3) L (.double r.1 :: st)) : tw_Rf z res E σ pc L (.ref (tw_zB z + 442) :: st) := r_callV (As := []) X d (tw_m_X12_meanDistance  h) tw_y_X12_meanDistance tw_v_X12_meanDistance i hi rfl (tw_kd_lt tw_kc442 (by decide)) (tw_E12 tw_kc442) rfl ⟨rfl, rfl, h1, h2⟩ hcs hst rfl kk
def tw_P_X12_chestIsLeft (n : Nat)  (σ : tw_Sg) : Option (Int32 × tw_Sg) :=
tw_lt (tw_up σ 442 0 (0 : Int32)) (fun (σ1 : tw_Sg) =>
tw_ck (tw_ok (6 : Int32) (tw_ln 444)) (
tw_jn (fun (a2 : Int32 × tw_Sg) =>
tw_ck (tw_01 a2.1) (some (a2.1, a2.2))) (fun (j3 : (Int32 × tw_Sg) → Option (Int32 × tw_Sg)) =>
tw_jn (fun (a4 : tw_Sg) =>
j3 ((0 : Int32), a4)) (fun (j5 : (tw_Sg) → Option (Int32 × tw_Sg)) =>
if ¬ (σ1 444 (Int32.toNatClampNeg (6 : Int32))) = (1 : Int32) then (j5 σ1)
else (tw_ck (tw_ok (7 : Int32) (tw_ln 444)) (
tw_bd (tw_P_X12_isLeft n (σ1 444 (Int32.toNatClampNeg (7 : Int32))) σ1) (fun r6 =>
if r6.1 = 0 then (j5 r6.2)
else (j3 ((1 : Int32), r6.2)))))))))
theorem tw_y_X12_chestIsLeft : tw_My yX12_chestIsLeft cX12_chestIsLeft 1 (some .boolean) 0 := ⟨List.mem_of_getElem? tw_w1676, List.mem_of_getElem? tw_w101, by decide +kernel, by decide +kernel, by decide +kernel⟩
theorem tw_v_X12_chestIsLeft : tw_Mv yX12_chestIsLeft "TreasureWalkModel" := ⟨List.mem_of_getElem? tw_w1674, List.mem_of_getElem? tw_w1675, rfl⟩
set_option maxRecDepth 100000 in
set_option maxHeartbeats 4000000 in
theorem tw_m_X12_chestIsLeft {l : Launch} {B : Nat} {D : va_G} {C : Nat → ClassId} {S : Nat → Nat} {n : Nat}  {σ : tw_Sg}  {r : Int32 × tw_Sg} (h : tw_P_X12_chestIsLeft n σ = some r) : tw_Met l B D C S yX12_chestIsLeft cX12_chestIsLeft 1 (some .boolean) ({ frames := 9, cells := 0, slots := 0, locals := 215 } : Room) [.ref (B + 442)] σ (some (.int r.1)) r.2 := by
  refine tw_metOfP (tw_P_X12_chestIsLeft n σ) r h (fun r => (some (.int r.1), r.2)) (by decide +kernel) (Nat.le_of_ble_eq_true rfl) ⟨rfl, rfl⟩ ?_
  intro z el eB eD eC eS hfr hlo hcs X hret hQ
  subst el eB eD eC eS
  have X : tw_X z cX12_chestIsLeft "TreasureWalkModel" 1 := X
  show tw_Rf z r _ σ 0 [(0, .ref (tw_zB z + 442))] []
  unfold tw_P_X12_chestIsLeft
  refine r_aload_n X dX12_chestIsLeft_0 rfl 0 rfl ?_
  refine r_iconst X dX12_chestIsLeft_1 (v := (0 : Int32)) (by decide) ?_
  refine tw_s12_0 (k := 442) X dX12_chestIsLeft_2 _ tw_w1252 tw_kc442 (fun σ1 => ?_)
  refine r_aload_n X dX12_chestIsLeft_5 rfl 0 rfl ?_
  refine tw_g12_8 (k := 442) (v := .ref (tw_zB z + 444)) X dX12_chestIsLeft_6 _ tw_w1260 tw_kc442 rfl ?_
  refine r_bipush X dX12_chestIsLeft_9 (v := (6 : Int32)) (by decide) ?_
  refine r_iald (k := 444) X dX12_chestIsLeft_11 tw_kc444 ?_
  refine r_iconst X dX12_chestIsLeft_12 (v := (1 : Int32)) (by decide) ?_
  refine r_jn (α := Int32 × tw_Sg) (σJ := fun a2 => a2.2) (pcJ := 35) (LJ := fun a2 => []) (stJ := fun a2 => [.int a2.1]) (ok := fun a2 => True) (fun a2 hoka2 => ?_) (fun j3 hj3 => ?_)
  ·
    exact r_zret X dX12_chestIsLeft_35 hret hQ rfl
  refine r_jn (α := tw_Sg) (σJ := fun a4 => a4) (pcJ := 34) (LJ := fun a4 => []) (stJ := fun a4 => []) (ok := fun a4 => True) (fun a4 hoka4 => ?_) (fun j5 hj5 => ?_)
  ·
    refine r_iconst X dX12_chestIsLeft_34 (v := (0 : Int32)) (by decide) ?_
    exact hj3 ((0 : Int32), a4) trivial
  refine r_icmp_ne X dX12_chestIsLeft_13 (tgt := 34) (by decide) ?_ ?_
  ·
    exact tw_Rf.sub [] rfl (hj5 σ1 trivial)
  ·
    refine r_aload_n X dX12_chestIsLeft_16 rfl 0 rfl ?_
    refine r_aload_n X dX12_chestIsLeft_17 rfl 0 rfl ?_
    refine tw_g12_8 (k := 442) (v := .ref (tw_zB z + 444)) X dX12_chestIsLeft_18 _ tw_w1260 tw_kc442 rfl ?_
    refine r_bipush X dX12_chestIsLeft_21 (v := (7 : Int32)) (by decide) ?_
    refine r_iald (k := 444) X dX12_chestIsLeft_23 tw_kc444 ?_
    refine r_bd (fun r6 hr6 => ?_)
    refine tw_c_X12_isLeft X dX12_chestIsLeft_24 _ tw_w1584  hr6 (tw_le hfr rfl) (tw_le hlo rfl) hcs (Nat.le_of_ble_eq_true rfl) trivial ?_
    refine r_if_eq X dX12_chestIsLeft_27 (tgt := 34) (by decide) ?_ ?_
    ·
      exact tw_Rf.sub [] rfl (hj5 r6.2 trivial)
    ·
      refine r_iconst X dX12_chestIsLeft_30 (v := (1 : Int32)) (by decide) ?_
      refine r_goto X dX12_chestIsLeft_31 (tgt := 35) (by decide) ?_
      exact tw_Rf.sub [] rfl (hj3 ((1 : Int32), r6.2) trivial)
theorem tw_c_X12_chestIsLeft {ρ : Type} {z : tw_Z} {cc : ByteArray} {own : String} {nL pc : Nat} {σ : tw_Sg} {L : List (Nat × Value)} {st : List Value} {ix : Nat} {n : Nat}  (X : tw_X z cc own nL) (d : decode cc pc = .ok (.invokevirtual ix, 3)) (i : Nat) (hi : lw_tbl[i]? = some (.methodLink own ix yX12_chestIsLeft))  {res : ρ} {E : Option ρ} {r : Int32 × tw_Sg} (h : tw_P_X12_chestIsLeft n σ = some r) (h1 : 10 ≤ (tw_zR z).frames) (h2 : 235 ≤ (tw_zR z).locals) (hcs : tw_zcells z ≤ (tw_zR z).cells ∧ tw_zslots z ≤ (tw_zR z).slots) (hst : (st.map fun v => v.category).sum ≤ 8) (_ : True) (kk : tw_Rf z res E r.2 (pc + 3) L (.int r.1 :: st)) : tw_Rf z res E σ pc L (.ref (tw_zB z + 442) :: st) := r_callV (As := []) X d (tw_m_X12_chestIsLeft  h) tw_y_X12_chestIsLeft tw_v_X12_chestIsLeft i hi rfl (tw_kd_lt tw_kc442 (by decide)) (tw_E12 tw_kc442) rfl ⟨rfl, rfl, h1, h2⟩ hcs hst rfl kk
def tw_P_X12_moveTo (n : Nat) (x0 : Int32) (x1 : Int32) (σ : tw_Sg) : Option (Int32 × tw_Sg) :=
tw_lt (tw_up σ 442 0 (0 : Int32)) (fun (σ1 : tw_Sg) =>
tw_bd (tw_P_X12_noCell x0 x1 σ1) (fun r2 =>
if r2.1 = 0 then (tw_ck (tw_ok (4 : Int32) (tw_ln 444)) (
tw_bd (tw_P_X12_layFar n (r2.2 444 (Int32.toNatClampNeg (4 : Int32))) r2.2) (fun r3 =>
tw_bd (tw_P_X12_cellAt x0 x1 r3) (fun r4 =>
tw_ck (tw_ok r4 (tw_ln 508)) (
tw_lt (r3 508 (Int32.toNatClampNeg r4)) (fun (v5 : Int32) =>
if ¬ v5 = (-1 : Int32) then (tw_bd (tw_P_X12_remember n r3) (fun r6 =>
tw_bd (tw_P_X12_cellAt x0 x1 r6) (fun r7 =>
tw_ck (tw_ok (4 : Int32) (tw_ln 444)) (tw_lt (tw_up r6 444 (Int32.toNatClampNeg (4 : Int32)) r7) (fun (σ8 : tw_Sg) =>
tw_ck (tw_ok (5 : Int32) (tw_ln 444)) (
tw_ck (tw_ok (5 : Int32) (tw_ln 444)) (tw_lt (tw_up σ8 444 (Int32.toNatClampNeg (5 : Int32)) ((σ8 444 (Int32.toNatClampNeg (5 : Int32))) + v5)) (fun (σ9 : tw_Sg) =>
some (v5, σ9)))))))))
else (some ((-1 : Int32), r3))))))))
else (some ((0 : Int32), r2.2))))
theorem tw_y_X12_moveTo : tw_My yX12_moveTo cX12_moveTo 4 (some .int) 2 := ⟨List.mem_of_getElem? tw_w1680, List.mem_of_getElem? tw_w101, by decide +kernel, by decide +kernel, by decide +kernel⟩
theorem tw_v_X12_moveTo : tw_Mv yX12_moveTo "TreasureWalkModel" := ⟨List.mem_of_getElem? tw_w1678, List.mem_of_getElem? tw_w1679, rfl⟩
set_option maxRecDepth 100000 in
set_option maxHeartbeats 4000000 in
theorem tw_m_X12_moveTo {l : Launch} {B : Nat} {D : va_G} {C : Nat → ClassId} {S : Nat → Nat} {n : Nat} {x0 : Int32} {x1 : Int32} {σ : tw_Sg}  {r : Int32 × tw_Sg} (h : tw_P_X12_moveTo n x0 x1 σ = some r) : tw_Met l B D C S yX12_moveTo cX12_moveTo 4 (some .int) ({ frames := 3, cells := 0, slots := 0, locals := 71 } : Room) [.ref (B + 442), .int x0, .int x1] σ (some (.int r.1)) r.2 := by
  refine tw_metOfP (tw_P_X12_moveTo n x0 x1 σ) r h (fun r => (some (.int r.1), r.2)) (by decide +kernel) (Nat.le_of_ble_eq_true rfl) ⟨rfl, rfl⟩ ?_
  intro z el eB eD eC eS hfr hlo hcs X hret hQ
  subst el eB eD eC eS
  have X : tw_X z cX12_moveTo "TreasureWalkModel" 4 := X
  show tw_Rf z r _ σ 0 [(0, .ref (tw_zB z + 442)), (1, .int x0), (2, .int x1)] []
  unfold tw_P_X12_moveTo
  refine r_aload_n X dX12_moveTo_0 rfl 0 rfl ?_
  refine r_iconst X dX12_moveTo_1 (v := (0 : Int32)) (by decide) ?_
  refine tw_s12_0 (k := 442) X dX12_moveTo_2 _ tw_w1252 tw_kc442 (fun σ1 => ?_)
  refine r_aload_n X dX12_moveTo_5 rfl 0 rfl ?_
  refine r_iload_n X dX12_moveTo_6 rfl 1 rfl ?_
  refine r_iload_n X dX12_moveTo_7 rfl 2 rfl ?_
  refine r_bd (fun r2 hr2 => ?_)
  refine tw_c_X12_noCell X dX12_moveTo_8 _ tw_w1596  hr2 (tw_le hfr rfl) (tw_le hlo rfl) hcs (Nat.le_of_ble_eq_true rfl) trivial ?_
  refine r_if_eq X dX12_moveTo_11 (tgt := 16) (by decide) ?_ ?_
  ·
    refine r_aload_n X dX12_moveTo_16 rfl 0 rfl ?_
    refine r_aload_n X dX12_moveTo_17 rfl 0 rfl ?_
    refine tw_g12_8 (k := 442) (v := .ref (tw_zB z + 444)) X dX12_moveTo_18 _ tw_w1260 tw_kc442 rfl ?_
    refine r_iconst X dX12_moveTo_21 (v := (4 : Int32)) (by decide) ?_
    refine r_iald (k := 444) X dX12_moveTo_22 tw_kc444 ?_
    refine r_bd (fun r3 hr3 => ?_)
    refine tw_c_X12_layFar X dX12_moveTo_23 _ tw_w1648  hr3 (tw_le hfr rfl) (tw_le hlo rfl) hcs (Nat.le_of_ble_eq_true rfl) trivial ?_
    refine r_aload_n X dX12_moveTo_26 rfl 0 rfl ?_
    refine tw_g12_24 (k := 442) (v := .ref (tw_zB z + 508)) X dX12_moveTo_27 _ tw_w1276 tw_kc442 rfl ?_
    refine r_aload_n X dX12_moveTo_30 rfl 0 rfl ?_
    refine r_iload_n X dX12_moveTo_31 rfl 1 rfl ?_
    refine r_iload_n X dX12_moveTo_32 rfl 2 rfl ?_
    refine r_bd (fun r4 hr4 => ?_)
    refine tw_c_X12_cellAt X dX12_moveTo_33 _ tw_w1576  hr4 (tw_le hfr rfl) (tw_le hlo rfl) hcs (Nat.le_of_ble_eq_true rfl) trivial ?_
    refine r_iald (k := 508) X dX12_moveTo_36 tw_kc508 ?_
    refine r_istore_n X dX12_moveTo_37 rfl (by decide) (LL := fun v5 => [(3, .int v5), (0, .ref (tw_zB z + 442)), (1, .int x0), (2, .int x1)]) (fun _ => rfl) (fun v5 => ?_)
    refine r_iload_n X dX12_moveTo_38 rfl 0 rfl ?_
    refine r_iconst X dX12_moveTo_39 (v := (-1 : Int32)) (by decide) ?_
    refine r_icmp_ne X dX12_moveTo_40 (tgt := 45) (by decide) ?_ ?_
    ·
      refine r_aload_n X dX12_moveTo_45 rfl 1 rfl ?_
      refine r_bd (fun r6 hr6 => ?_)
      refine tw_c_X12_remember X dX12_moveTo_46 _ tw_w1492  hr6 (tw_le hfr rfl) (tw_le hlo rfl) hcs (Nat.le_of_ble_eq_true rfl) trivial ?_
      refine r_aload_n X dX12_moveTo_49 rfl 1 rfl ?_
      refine tw_g12_8 (k := 442) (v := .ref (tw_zB z + 444)) X dX12_moveTo_50 _ tw_w1260 tw_kc442 rfl ?_
      refine r_iconst X dX12_moveTo_53 (v := (4 : Int32)) (by decide) ?_
      refine r_aload_n X dX12_moveTo_54 rfl 1 rfl ?_
      refine r_iload_n X dX12_moveTo_55 rfl 2 rfl ?_
      refine r_iload_n X dX12_moveTo_56 rfl 3 rfl ?_
      refine r_bd (fun r7 hr7 => ?_)
      refine tw_c_X12_cellAt X dX12_moveTo_57 _ tw_w1576  hr7 (tw_le hfr rfl) (tw_le hlo rfl) hcs (Nat.le_of_ble_eq_true rfl) trivial ?_
      refine r_iast (k := 444) X dX12_moveTo_60 tw_kc444 (fun σ8 => ?_)
      refine r_aload_n X dX12_moveTo_61 rfl 1 rfl ?_
      refine tw_g12_8 (k := 442) (v := .ref (tw_zB z + 444)) X dX12_moveTo_62 _ tw_w1260 tw_kc442 rfl ?_
      refine r_iconst X dX12_moveTo_65 (v := (5 : Int32)) (by decide) ?_
      refine r_dup2 X dX12_moveTo_66 rfl rfl ?_
      refine r_iald (k := 444) X dX12_moveTo_67 tw_kc444 ?_
      refine r_iload_n X dX12_moveTo_68 rfl 0 rfl ?_
      refine r_iadd X dX12_moveTo_69 ?_
      refine r_iast (k := 444) X dX12_moveTo_70 tw_kc444 (fun σ9 => ?_)
      refine r_iload_n X dX12_moveTo_71 rfl 0 rfl ?_
      exact r_iret X dX12_moveTo_72 hret hQ rfl
    ·
      refine r_iconst X dX12_moveTo_43 (v := (-1 : Int32)) (by decide) ?_
      exact r_iret X dX12_moveTo_44 hret hQ rfl
  ·
    refine r_iconst X dX12_moveTo_14 (v := (0 : Int32)) (by decide) ?_
    exact r_iret X dX12_moveTo_15 hret hQ rfl
theorem tw_c_X12_moveTo {ρ : Type} {z : tw_Z} {cc : ByteArray} {own : String} {nL pc : Nat} {σ : tw_Sg} {L : List (Nat × Value)} {st : List Value} {ix : Nat} {n : Nat} {x0 : Int32} {x1 : Int32} (X : tw_X z cc own nL) (d : decode cc pc = .ok (.invokevirtual ix, 3)) (i : Nat) (hi : lw_tbl[i]? = some (.methodLink own ix yX12_moveTo))  {res : ρ} {E : Option ρ} {r : Int32 × tw_Sg} (h : tw_P_X12_moveTo n x0 x1 σ = some r) (h1 : 4 ≤ (tw_zR z).frames) (h2 : 94 ≤ (tw_zR z).locals) (hcs : tw_zcells z ≤ (tw_zR z).cells ∧ tw_zslots z ≤ (tw_zR z).slots) (hst : (st.map fun v => v.category).sum ≤ 8) (_ : True) (kk : tw_Rf z res E r.2 (pc + 3) L (.int r.1 :: st)) : tw_Rf z res E σ pc L (.int x1 :: .int x0 :: .ref (tw_zB z + 442) :: st) := r_callV (As := [.int x0, .int x1]) X d (tw_m_X12_moveTo  h) tw_y_X12_moveTo tw_v_X12_moveTo i hi rfl (tw_kd_lt tw_kc442 (by decide)) (tw_E12 tw_kc442) rfl ⟨rfl, rfl, h1, h2⟩ hcs hst rfl kk
def tw_P_X12_dig (n : Nat)  (σ : tw_Sg) : Option (Int32 × tw_Sg) :=
tw_lt (tw_up σ 442 0 (0 : Int32)) (fun (σ1 : tw_Sg) =>
tw_bd (tw_P_X12_remember n σ1) (fun r2 =>
tw_ck (tw_ok (4 : Int32) (tw_ln 444)) (
tw_lt ((408 : Int32) + (r2 444 (Int32.toNatClampNeg (4 : Int32)))) (fun (v3 : Int32) =>
tw_ck (tw_ok v3 (tw_ln 444)) (
tw_lt (r2 444 (Int32.toNatClampNeg v3)) (fun (v4 : Int32) =>
tw_ck (tw_ok v3 (tw_ln 444)) (tw_lt (tw_up r2 444 (Int32.toNatClampNeg v3) (1 : Int32)) (fun (σ5 : tw_Sg) =>
if ¬ v4 = (1 : Int32) then (tw_ck (tw_ok (6 : Int32) (tw_ln 444)) (
tw_jn (fun (a6 : Unit) =>
some ((1 : Int32), σ5)) (fun (j7 : (Unit) → Option (Int32 × tw_Sg)) =>
if ¬ (σ5 444 (Int32.toNatClampNeg (6 : Int32))) = (1 : Int32) then (j7 ())
else (tw_ck (tw_ok (7 : Int32) (tw_ln 444)) (
tw_ck (tw_ok (4 : Int32) (tw_ln 444)) (
if (σ5 444 (Int32.toNatClampNeg (7 : Int32))) = (σ5 444 (Int32.toNatClampNeg (4 : Int32))) then (tw_ck (tw_ok (6 : Int32) (tw_ln 444)) (tw_lt (tw_up σ5 444 (Int32.toNatClampNeg (6 : Int32)) (2 : Int32)) (fun (σ8 : tw_Sg) =>
some ((2 : Int32), σ8))))
else (j7 ())))))))
else (some ((0 : Int32), σ5))))))))))
theorem tw_y_X12_dig : tw_My yX12_dig cX12_dig 3 (some .int) 0 := ⟨List.mem_of_getElem? tw_w1684, List.mem_of_getElem? tw_w101, by decide +kernel, by decide +kernel, by decide +kernel⟩
theorem tw_v_X12_dig : tw_Mv yX12_dig "TreasureWalkModel" := ⟨List.mem_of_getElem? tw_w1682, List.mem_of_getElem? tw_w1683, rfl⟩
set_option maxRecDepth 100000 in
set_option maxHeartbeats 4000000 in
theorem tw_m_X12_dig {l : Launch} {B : Nat} {D : va_G} {C : Nat → ClassId} {S : Nat → Nat} {n : Nat}  {σ : tw_Sg}  {r : Int32 × tw_Sg} (h : tw_P_X12_dig n σ = some r) : tw_Met l B D C S yX12_dig cX12_dig 3 (some .int) ({ frames := 2, cells := 0, slots := 0, locals := 43 } : Room) [.ref (B + 442)] σ (some (.int r.1)) r.2 := by
  refine tw_metOfP (tw_P_X12_dig n σ) r h (fun r => (some (.int r.1), r.2)) (by decide +kernel) (Nat.le_of_ble_eq_true rfl) ⟨rfl, rfl⟩ ?_
  intro z el eB eD eC eS hfr hlo hcs X hret hQ
  subst el eB eD eC eS
  have X : tw_X z cX12_dig "TreasureWalkModel" 3 := X
  show tw_Rf z r _ σ 0 [(0, .ref (tw_zB z + 442))] []
  unfold tw_P_X12_dig
  refine r_aload_n X dX12_dig_0 rfl 0 rfl ?_
  refine r_iconst X dX12_dig_1 (v := (0 : Int32)) (by decide) ?_
  refine tw_s12_0 (k := 442) X dX12_dig_2 _ tw_w1252 tw_kc442 (fun σ1 => ?_)
  refine r_aload_n X dX12_dig_5 rfl 0 rfl ?_
  refine r_bd (fun r2 hr2 => ?_)
  refine tw_c_X12_remember X dX12_dig_6 _ tw_w1492  hr2 (tw_le hfr rfl) (tw_le hlo rfl) hcs (Nat.le_of_ble_eq_true rfl) trivial ?_
  refine r_sipush X dX12_dig_9 (v := (408 : Int32)) (by decide) ?_
  refine r_aload_n X dX12_dig_12 rfl 0 rfl ?_
  refine tw_g12_8 (k := 442) (v := .ref (tw_zB z + 444)) X dX12_dig_13 _ tw_w1260 tw_kc442 rfl ?_
  refine r_iconst X dX12_dig_16 (v := (4 : Int32)) (by decide) ?_
  refine r_iald (k := 444) X dX12_dig_17 tw_kc444 ?_
  refine r_iadd X dX12_dig_18 ?_
  refine r_istore_n X dX12_dig_19 rfl (by decide) (LL := fun v3 => [(1, .int v3), (0, .ref (tw_zB z + 442))]) (fun _ => rfl) (fun v3 => ?_)
  refine r_aload_n X dX12_dig_20 rfl 1 rfl ?_
  refine tw_g12_8 (k := 442) (v := .ref (tw_zB z + 444)) X dX12_dig_21 _ tw_w1260 tw_kc442 rfl ?_
  refine r_iload_n X dX12_dig_24 rfl 0 rfl ?_
  refine r_iald (k := 444) X dX12_dig_25 tw_kc444 ?_
  refine r_istore_n X dX12_dig_26 rfl (by decide) (LL := fun v4 => [(2, .int v4), (1, .int v3), (0, .ref (tw_zB z + 442))]) (fun _ => rfl) (fun v4 => ?_)
  refine r_aload_n X dX12_dig_27 rfl 2 rfl ?_
  refine tw_g12_8 (k := 442) (v := .ref (tw_zB z + 444)) X dX12_dig_28 _ tw_w1260 tw_kc442 rfl ?_
  refine r_iload_n X dX12_dig_31 rfl 1 rfl ?_
  refine r_iconst X dX12_dig_32 (v := (1 : Int32)) (by decide) ?_
  refine r_iast (k := 444) X dX12_dig_33 tw_kc444 (fun σ5 => ?_)
  refine r_iload_n X dX12_dig_34 rfl 0 rfl ?_
  refine r_iconst X dX12_dig_35 (v := (1 : Int32)) (by decide) ?_
  refine r_icmp_ne X dX12_dig_36 (tgt := 41) (by decide) ?_ ?_
  ·
    refine r_aload_n X dX12_dig_41 rfl 2 rfl ?_
    refine tw_g12_8 (k := 442) (v := .ref (tw_zB z + 444)) X dX12_dig_42 _ tw_w1260 tw_kc442 rfl ?_
    refine r_bipush X dX12_dig_45 (v := (6 : Int32)) (by decide) ?_
    refine r_iald (k := 444) X dX12_dig_47 tw_kc444 ?_
    refine r_iconst X dX12_dig_48 (v := (1 : Int32)) (by decide) ?_
    refine r_jn (α := Unit) (σJ := fun a6 => σ5) (pcJ := 68) (LJ := fun a6 => []) (stJ := fun a6 => []) (ok := fun a6 => True) (fun a6 hoka6 => ?_) (fun j7 hj7 => ?_)
    ·
      refine r_iconst X dX12_dig_68 (v := (1 : Int32)) (by decide) ?_
      exact r_iret X dX12_dig_69 hret hQ rfl
    refine r_icmp_ne X dX12_dig_49 (tgt := 68) (by decide) ?_ ?_
    ·
      exact tw_Rf.sub [] rfl (hj7 () trivial)
    ·
      refine r_aload_n X dX12_dig_52 rfl 2 rfl ?_
      refine tw_g12_8 (k := 442) (v := .ref (tw_zB z + 444)) X dX12_dig_53 _ tw_w1260 tw_kc442 rfl ?_
      refine r_bipush X dX12_dig_56 (v := (7 : Int32)) (by decide) ?_
      refine r_iald (k := 444) X dX12_dig_58 tw_kc444 ?_
      refine r_aload_n X dX12_dig_59 rfl 2 rfl ?_
      refine tw_g12_8 (k := 442) (v := .ref (tw_zB z + 444)) X dX12_dig_60 _ tw_w1260 tw_kc442 rfl ?_
      refine r_iconst X dX12_dig_63 (v := (4 : Int32)) (by decide) ?_
      refine r_iald (k := 444) X dX12_dig_64 tw_kc444 ?_
      refine r_icmp_eq X dX12_dig_65 (tgt := 70) (by decide) ?_ ?_
      ·
        refine r_aload_n X dX12_dig_70 rfl 2 rfl ?_
        refine tw_g12_8 (k := 442) (v := .ref (tw_zB z + 444)) X dX12_dig_71 _ tw_w1260 tw_kc442 rfl ?_
        refine r_bipush X dX12_dig_74 (v := (6 : Int32)) (by decide) ?_
        refine r_iconst X dX12_dig_76 (v := (2 : Int32)) (by decide) ?_
        refine r_iast (k := 444) X dX12_dig_77 tw_kc444 (fun σ8 => ?_)
        refine r_iconst X dX12_dig_78 (v := (2 : Int32)) (by decide) ?_
        exact r_iret X dX12_dig_79 hret hQ rfl
      ·
        exact tw_Rf.sub [] rfl (hj7 () trivial)
  ·
    refine r_iconst X dX12_dig_39 (v := (0 : Int32)) (by decide) ?_
    exact r_iret X dX12_dig_40 hret hQ rfl
theorem tw_c_X12_dig {ρ : Type} {z : tw_Z} {cc : ByteArray} {own : String} {nL pc : Nat} {σ : tw_Sg} {L : List (Nat × Value)} {st : List Value} {ix : Nat} {n : Nat}  (X : tw_X z cc own nL) (d : decode cc pc = .ok (.invokevirtual ix, 3)) (i : Nat) (hi : lw_tbl[i]? = some (.methodLink own ix yX12_dig))  {res : ρ} {E : Option ρ} {r : Int32 × tw_Sg} (h : tw_P_X12_dig n σ = some r) (h1 : 3 ≤ (tw_zR z).frames) (h2 : 65 ≤ (tw_zR z).locals) (hcs : tw_zcells z ≤ (tw_zR z).cells ∧ tw_zslots z ≤ (tw_zR z).slots) (hst : (st.map fun v => v.category).sum ≤ 8) (_ : True) (kk : tw_Rf z res E r.2 (pc + 3) L (.int r.1 :: st)) : tw_Rf z res E σ pc L (.ref (tw_zB z + 442) :: st) := r_callV (As := []) X d (tw_m_X12_dig  h) tw_y_X12_dig tw_v_X12_dig i hi rfl (tw_kd_lt tw_kc442 (by decide)) (tw_E12 tw_kc442) rfl ⟨rfl, rfl, h1, h2⟩ hcs hst rfl kk
def tw_P_X12_use (n : Nat) (x0 : Int32) (x1 : Int32) (σ : tw_Sg) : Option (Int32 × tw_Sg) :=
tw_lt (tw_up σ 442 0 (0 : Int32)) (fun (σ1 : tw_Sg) =>
tw_bd (tw_P_X12_noClue x0 σ1) (fun r2 =>
if r2.1 = 0 then (tw_bd (tw_P_X12_remember n r2.2) (fun r3 =>
tw_bd (tw_P_X12_clueAt x0 r3) (fun r4 =>
tw_jn (fun (a5 : Int32) =>
tw_ck (tw_ok (r4 + (0 : Int32)) (tw_ln 444)) (tw_lt (tw_up r3 444 (Int32.toNatClampNeg (r4 + (0 : Int32))) a5) (fun (σ7 : tw_Sg) =>
tw_bd (tw_P_X12_count n (1 : Int32) σ7) (fun r8 =>
some (r8.1, r8.2))))) (fun (j6 : (Int32) → Option (Int32 × tw_Sg)) =>
if x1 = 0 then (j6 (0 : Int32))
else (j6 (1 : Int32))))))
else (some ((0 : Int32), r2.2))))
theorem tw_y_X12_use : tw_My yX12_use cX12_use 3 (some .int) 2 := ⟨List.mem_of_getElem? tw_w1688, List.mem_of_getElem? tw_w101, by decide +kernel, by decide +kernel, by decide +kernel⟩
theorem tw_v_X12_use : tw_Mv yX12_use "TreasureWalkModel" := ⟨List.mem_of_getElem? tw_w1686, List.mem_of_getElem? tw_w1687, rfl⟩
set_option maxRecDepth 100000 in
set_option maxHeartbeats 4000000 in
theorem tw_m_X12_use {l : Launch} {B : Nat} {D : va_G} {C : Nat → ClassId} {S : Nat → Nat} {n : Nat} {x0 : Int32} {x1 : Int32} {σ : tw_Sg}  {r : Int32 × tw_Sg} (h : tw_P_X12_use n x0 x1 σ = some r) : tw_Met l B D C S yX12_use cX12_use 3 (some .int) ({ frames := 10, cells := 0, slots := 0, locals := 238 } : Room) [.ref (B + 442), .int x0, .int x1] σ (some (.int r.1)) r.2 := by
  refine tw_metOfP (tw_P_X12_use n x0 x1 σ) r h (fun r => (some (.int r.1), r.2)) (by decide +kernel) (Nat.le_of_ble_eq_true rfl) ⟨rfl, rfl⟩ ?_
  intro z el eB eD eC eS hfr hlo hcs X hret hQ
  subst el eB eD eC eS
  have X : tw_X z cX12_use "TreasureWalkModel" 3 := X
  show tw_Rf z r _ σ 0 [(0, .ref (tw_zB z + 442)), (1, .int x0), (2, .int x1)] []
  unfold tw_P_X12_use
  refine r_aload_n X dX12_use_0 rfl 0 rfl ?_
  refine r_iconst X dX12_use_1 (v := (0 : Int32)) (by decide) ?_
  refine tw_s12_0 (k := 442) X dX12_use_2 _ tw_w1252 tw_kc442 (fun σ1 => ?_)
  refine r_aload_n X dX12_use_5 rfl 0 rfl ?_
  refine r_iload_n X dX12_use_6 rfl 1 rfl ?_
  refine r_bd (fun r2 hr2 => ?_)
  refine tw_c_X12_noClue X dX12_use_7 _ tw_w1612  hr2 (tw_le hfr rfl) (tw_le hlo rfl) hcs (Nat.le_of_ble_eq_true rfl) trivial ?_
  refine r_if_eq X dX12_use_10 (tgt := 15) (by decide) ?_ ?_
  ·
    refine r_aload_n X dX12_use_15 rfl 0 rfl ?_
    refine r_bd (fun r3 hr3 => ?_)
    refine tw_c_X12_remember X dX12_use_16 _ tw_w1492  hr3 (tw_le hfr rfl) (tw_le hlo rfl) hcs (Nat.le_of_ble_eq_true rfl) trivial ?_
    refine r_aload_n X dX12_use_19 rfl 0 rfl ?_
    refine tw_g12_8 (k := 442) (v := .ref (tw_zB z + 444)) X dX12_use_20 _ tw_w1260 tw_kc442 rfl ?_
    refine r_iload_n X dX12_use_23 rfl 1 rfl ?_
    refine r_bd (fun r4 hr4 => ?_)
    refine tw_c_X12_clueAt X dX12_use_24 _ tw_w1460  hr4 (tw_le hfr rfl) (tw_le hlo rfl) hcs (Nat.le_of_ble_eq_true rfl) trivial ?_
    refine r_iconst X dX12_use_27 (v := (0 : Int32)) (by decide) ?_
    refine r_iadd X dX12_use_28 ?_
    refine r_iload_n X dX12_use_29 rfl 2 rfl ?_
    refine r_jn (α := Int32) (σJ := fun a5 => r3) (pcJ := 38) (LJ := fun a5 => [(0, .ref (tw_zB z + 442))]) (stJ := fun a5 => [.int a5, .int (r4 + (0 : Int32)), .ref (tw_zB z + 444)]) (ok := fun a5 => True) (fun a5 hoka5 => ?_) (fun j6 hj6 => ?_)
    ·
      refine r_iast (k := 444) X dX12_use_38 tw_kc444 (fun σ7 => ?_)
      refine r_aload_n X dX12_use_39 rfl 0 rfl ?_
      refine r_iconst X dX12_use_40 (v := (1 : Int32)) (by decide) ?_
      refine r_bd (fun r8 hr8 => ?_)
      refine tw_c_X12_count X dX12_use_41 _ tw_w1519  hr8 (tw_le hfr rfl) (tw_le hlo rfl) hcs (Nat.le_of_ble_eq_true rfl) trivial ?_
      exact r_iret X dX12_use_44 hret hQ rfl
    refine r_if_eq X dX12_use_30 (tgt := 37) (by decide) ?_ ?_
    ·
      refine r_iconst X dX12_use_37 (v := (0 : Int32)) (by decide) ?_
      exact tw_Rf.sub [0] rfl (hj6 (0 : Int32) trivial)
    ·
      refine r_iconst X dX12_use_33 (v := (1 : Int32)) (by decide) ?_
      refine r_goto X dX12_use_34 (tgt := 38) (by decide) ?_
      exact tw_Rf.sub [0] rfl (hj6 (1 : Int32) trivial)
  ·
    refine r_iconst X dX12_use_13 (v := (0 : Int32)) (by decide) ?_
    exact r_iret X dX12_use_14 hret hQ rfl
theorem tw_c_X12_use {ρ : Type} {z : tw_Z} {cc : ByteArray} {own : String} {nL pc : Nat} {σ : tw_Sg} {L : List (Nat × Value)} {st : List Value} {ix : Nat} {n : Nat} {x0 : Int32} {x1 : Int32} (X : tw_X z cc own nL) (d : decode cc pc = .ok (.invokevirtual ix, 3)) (i : Nat) (hi : lw_tbl[i]? = some (.methodLink own ix yX12_use))  {res : ρ} {E : Option ρ} {r : Int32 × tw_Sg} (h : tw_P_X12_use n x0 x1 σ = some r) (h1 : 11 ≤ (tw_zR z).frames) (h2 : 260 ≤ (tw_zR z).locals) (hcs : tw_zcells z ≤ (tw_zR z).cells ∧ tw_zslots z ≤ (tw_zR z).slots) (hst : (st.map fun v => v.category).sum ≤ 8) (_ : True) (kk : tw_Rf z res E r.2 (pc + 3) L (.int r.1 :: st)) : tw_Rf z res E σ pc L (.int x1 :: .int x0 :: .ref (tw_zB z + 442) :: st) := r_callV (As := [.int x0, .int x1]) X d (tw_m_X12_use  h) tw_y_X12_use tw_v_X12_use i hi rfl (tw_kd_lt tw_kc442 (by decide)) (tw_E12 tw_kc442) rfl ⟨rfl, rfl, h1, h2⟩ hcs hst rfl kk
def tw_P_X12_hide (n : Nat) (x0 : Int32) (σ : tw_Sg) : Option (Int32 × tw_Sg) :=
tw_lt (tw_up σ 442 0 (0 : Int32)) (fun (σ1 : tw_Sg) =>
tw_bd (tw_P_X12_in x0 (0 : Int32) (9999 : Int32) σ1) (fun r2 =>
tw_jn (fun (a3 : Int32) =>
tw_bd (tw_P_X12_fails a3 (1 : Int32) σ1) (fun r5 =>
if r5.1 = 0 then (tw_bd (tw_P_X12_remember n r5.2) (fun r6 =>
tw_bd (tw_P_X12_count n (1 : Int32) r6) (fun r7 =>
tw_lt r7.1 (fun (v8 : Int32) =>
tw_jn (fun (a9 : Int32) =>
tw_lt a9 (fun (v11 : Int32) =>
tw_jn (fun (a12 : Int32) =>
tw_ck (tw_ok (6 : Int32) (tw_ln 444)) (tw_lt (tw_up r7.2 444 (Int32.toNatClampNeg (6 : Int32)) a12) (fun (σ14 : tw_Sg) =>
tw_ck (tw_ok (7 : Int32) (tw_ln 444)) (tw_lt (tw_up σ14 444 (Int32.toNatClampNeg (7 : Int32)) (0 : Int32)) (fun (σ15 : tw_Sg) =>
tw_lt (0 : Int32) (fun (v16 : Int32) =>
tw_lp (fun (k18 : (Int32 × Int32 × tw_Sg) → Option (Int32 × tw_Sg)) (a17 : Int32 × Int32 × tw_Sg) =>
tw_bd (tw_P_X12_cells a17.2.2) (fun r19 =>
tw_jn (fun (a20 : Unit) =>
some (v8, a17.2.2)) (fun (j21 : (Unit) → Option (Int32 × tw_Sg)) =>
if r19 ≤ a17.2.1 then (j21 ())
else (if v8 ≤ 0 then (j21 ())
else (tw_bd (tw_P_X12_isLeft n a17.2.1 a17.2.2) (fun r22 =>
tw_jn (fun (a23 : Int32 × tw_Sg) =>
tw_lt (a17.2.1 + (1 : Int32)) (fun (v25 : Int32) =>
k18 (a23.1, v25, a23.2))) (fun (j24 : (Int32 × tw_Sg) → Option (Int32 × tw_Sg)) =>
if ¬ r22.1 = 0 then (tw_jn (fun (a26 : tw_Sg) =>
tw_lt (a17.1 + (-1 : Int32)) (fun (v28 : Int32) =>
j24 (v28, a26))) (fun (j27 : (tw_Sg) → Option (Int32 × tw_Sg)) =>
if ¬ a17.1 = 0 then (j27 r22.2)
else (tw_ck (tw_ok (7 : Int32) (tw_ln 444)) (tw_lt (tw_up r22.2 444 (Int32.toNatClampNeg (7 : Int32)) a17.2.1) (fun (σ29 : tw_Sg) =>
j27 σ29)))))
else (j24 (a17.1, r22.2))))))))) n (v11, v16, σ15))))))) (fun (j13 : (Int32) → Option (Int32 × tw_Sg)) =>
if ¬ v8 = 0 then (j13 (1 : Int32))
else (j13 (0 : Int32))))) (fun (j10 : (Int32) → Option (Int32 × tw_Sg)) =>
if ¬ v8 = 0 then (tw_ck (!decide (v8 = 0)) (
j10 (x0 - x0 / v8 * v8)))
else (j10 (0 : Int32)))))))
else (some ((0 : Int32), r5.2)))) (fun (j4 : (Int32) → Option (Int32 × tw_Sg)) =>
if ¬ r2 = 0 then (j4 (0 : Int32))
else (j4 (1 : Int32)))))
theorem tw_y_X12_hide : tw_My yX12_hide cX12_hide 5 (some .int) 1 := ⟨List.mem_of_getElem? tw_w1692, List.mem_of_getElem? tw_w101, by decide +kernel, by decide +kernel, by decide +kernel⟩
theorem tw_v_X12_hide : tw_Mv yX12_hide "TreasureWalkModel" := ⟨List.mem_of_getElem? tw_w1690, List.mem_of_getElem? tw_w1691, rfl⟩
set_option maxRecDepth 100000 in
set_option maxHeartbeats 4000000 in
theorem tw_m_X12_hide {l : Launch} {B : Nat} {D : va_G} {C : Nat → ClassId} {S : Nat → Nat} {n : Nat} {x0 : Int32} {σ : tw_Sg}  {r : Int32 × tw_Sg} (h : tw_P_X12_hide n x0 σ = some r) : tw_Met l B D C S yX12_hide cX12_hide 5 (some .int) ({ frames := 10, cells := 0, slots := 0, locals := 238 } : Room) [.ref (B + 442), .int x0] σ (some (.int r.1)) r.2 := by
  refine tw_metOfP (tw_P_X12_hide n x0 σ) r h (fun r => (some (.int r.1), r.2)) (by decide +kernel) (Nat.le_of_ble_eq_true rfl) ⟨rfl, rfl⟩ ?_
  intro z el eB eD eC eS hfr hlo hcs X hret hQ
  subst el eB eD eC eS
  have X : tw_X z cX12_hide "TreasureWalkModel" 5 := X
  show tw_Rf z r _ σ 0 [(0, .ref (tw_zB z + 442)), (1, .int x0)] []
  unfold tw_P_X12_hide
  refine r_aload_n X dX12_hide_0 rfl 0 rfl ?_
  refine r_iconst X dX12_hide_1 (v := (0 : Int32)) (by decide) ?_
  refine tw_s12_0 (k := 442) X dX12_hide_2 _ tw_w1252 tw_kc442 (fun σ1 => ?_)
  refine r_aload_n X dX12_hide_5 rfl 0 rfl ?_
  refine r_iload_n X dX12_hide_6 rfl 1 rfl ?_
  refine r_iconst X dX12_hide_7 (v := (0 : Int32)) (by decide) ?_
  refine r_sipush X dX12_hide_8 (v := (9999 : Int32)) (by decide) ?_
  refine r_bd (fun r2 hr2 => ?_)
  refine tw_c_X12_in X dX12_hide_11 _ tw_w1359  hr2 (tw_le hfr rfl) (tw_le hlo rfl) hcs (Nat.le_of_ble_eq_true rfl) trivial ?_
  refine r_jn (α := Int32) (σJ := fun a3 => σ1) (pcJ := 22) (LJ := fun a3 => [(0, .ref (tw_zB z + 442)), (1, .int x0)]) (stJ := fun a3 => [.int a3, .ref (tw_zB z + 442)]) (ok := fun a3 => True) (fun a3 hoka3 => ?_) (fun j4 hj4 => ?_)
  ·
    refine r_iconst X dX12_hide_22 (v := (1 : Int32)) (by decide) ?_
    refine r_bd (fun r5 hr5 => ?_)
    refine tw_c_X12_fails X dX12_hide_23 _ tw_w1362  hr5 (tw_le hfr rfl) (tw_le hlo rfl) hcs (Nat.le_of_ble_eq_true rfl) trivial ?_
    refine r_if_eq X dX12_hide_26 (tgt := 31) (by decide) ?_ ?_
    ·
      refine r_aload_n X dX12_hide_31 rfl 0 rfl ?_
      refine r_bd (fun r6 hr6 => ?_)
      refine tw_c_X12_remember X dX12_hide_32 _ tw_w1492  hr6 (tw_le hfr rfl) (tw_le hlo rfl) hcs (Nat.le_of_ble_eq_true rfl) trivial ?_
      refine r_aload_n X dX12_hide_35 rfl 0 rfl ?_
      refine r_iconst X dX12_hide_36 (v := (1 : Int32)) (by decide) ?_
      refine r_bd (fun r7 hr7 => ?_)
      refine tw_c_X12_count X dX12_hide_37 _ tw_w1519  hr7 (tw_le hfr rfl) (tw_le hlo rfl) hcs (Nat.le_of_ble_eq_true rfl) trivial ?_
      refine r_istore_n X dX12_hide_40 rfl (by decide) (LL := fun v8 => [(2, .int v8), (0, .ref (tw_zB z + 442)), (1, .int x0)]) (fun _ => rfl) (fun v8 => ?_)
      refine r_iload_n X dX12_hide_41 rfl 0 rfl ?_
      refine r_jn (α := Int32) (σJ := fun a9 => r7.2) (pcJ := 52) (LJ := fun a9 => [(2, .int v8), (0, .ref (tw_zB z + 442))]) (stJ := fun a9 => [.int a9]) (ok := fun a9 => True) (fun a9 hoka9 => ?_) (fun j10 hj10 => ?_)
      ·
        refine r_istore_n X dX12_hide_52 rfl (by decide) (LL := fun v11 => [(3, .int v11), (2, .int v8), (0, .ref (tw_zB z + 442))]) (fun _ => rfl) (fun v11 => ?_)
        refine r_aload_n X dX12_hide_53 rfl 2 rfl ?_
        refine tw_g12_8 (k := 442) (v := .ref (tw_zB z + 444)) X dX12_hide_54 _ tw_w1260 tw_kc442 rfl ?_
        refine r_bipush X dX12_hide_57 (v := (6 : Int32)) (by decide) ?_
        refine r_iload_n X dX12_hide_59 rfl 1 rfl ?_
        refine r_jn (α := Int32) (σJ := fun a12 => r7.2) (pcJ := 68) (LJ := fun a12 => [(3, .int v11), (2, .int v8), (0, .ref (tw_zB z + 442))]) (stJ := fun a12 => [.int a12, .int (6 : Int32), .ref (tw_zB z + 444)]) (ok := fun a12 => True) (fun a12 hoka12 => ?_) (fun j13 hj13 => ?_)
        ·
          refine r_iast (k := 444) X dX12_hide_68 tw_kc444 (fun σ14 => ?_)
          refine r_aload_n X dX12_hide_69 rfl 2 rfl ?_
          refine tw_g12_8 (k := 442) (v := .ref (tw_zB z + 444)) X dX12_hide_70 _ tw_w1260 tw_kc442 rfl ?_
          refine r_bipush X dX12_hide_73 (v := (7 : Int32)) (by decide) ?_
          refine r_iconst X dX12_hide_75 (v := (0 : Int32)) (by decide) ?_
          refine r_iast (k := 444) X dX12_hide_76 tw_kc444 (fun σ15 => ?_)
          refine r_iconst X dX12_hide_77 (v := (0 : Int32)) (by decide) ?_
          refine r_istore X dX12_hide_78 (by decide) (LL := fun v16 => [(4, .int v16), (3, .int v11), (2, .int v8), (0, .ref (tw_zB z + 442))]) (fun _ => rfl) (fun v16 => ?_)
          refine r_lp (α := Int32 × Int32 × tw_Sg) (σJ := fun a17 => a17.2.2) (pcJ := 80) (LJ := fun a17 => [(4, .int a17.2.1), (3, .int a17.1), (2, .int v8), (0, .ref (tw_zB z + 442))]) (stJ := fun a17 => []) (fun k18 hk18 a17 => ?_) n (v11, v16, σ15)
          refine r_iload X dX12_hide_80 0 rfl ?_
          refine r_aload_n X dX12_hide_82 rfl 3 rfl ?_
          refine r_bd (fun r19 hr19 => ?_)
          refine tw_c_X12_cells X dX12_hide_83 _ tw_w1523  hr19 (tw_le hfr rfl) (tw_le hlo rfl) hcs (Nat.le_of_ble_eq_true rfl) trivial ?_
          refine r_jn (α := Unit) (σJ := fun a20 => a17.2.2) (pcJ := 127) (LJ := fun a20 => [(2, .int v8)]) (stJ := fun a20 => []) (ok := fun a20 => True) (fun a20 hoka20 => ?_) (fun j21 hj21 => ?_)
          ·
            refine r_iload_n X dX12_hide_127 rfl 0 rfl ?_
            exact r_iret X dX12_hide_128 hret hQ rfl
          refine r_icmp_ge X dX12_hide_86 (tgt := 127) (by decide) ?_ ?_
          ·
            exact tw_Rf.sub [2] rfl (hj21 () trivial)
          ·
            refine r_iload_n X dX12_hide_89 rfl 2 rfl ?_
            refine r_if_le X dX12_hide_90 (tgt := 127) (by decide) ?_ ?_
            ·
              exact tw_Rf.sub [2] rfl (hj21 () trivial)
            ·
              refine r_aload_n X dX12_hide_93 rfl 3 rfl ?_
              refine r_iload X dX12_hide_94 0 rfl ?_
              refine r_bd (fun r22 hr22 => ?_)
              refine tw_c_X12_isLeft X dX12_hide_96 _ tw_w1584  hr22 (tw_le hfr rfl) (tw_le hlo rfl) hcs (Nat.le_of_ble_eq_true rfl) trivial ?_
              refine r_jn (α := Int32 × tw_Sg) (σJ := fun a23 => a23.2) (pcJ := 121) (LJ := fun a23 => [(4, .int a17.2.1), (3, .int a23.1), (2, .int v8), (0, .ref (tw_zB z + 442))]) (stJ := fun a23 => []) (ok := fun a23 => True) (fun a23 hoka23 => ?_) (fun j24 hj24 => ?_)
              ·
                refine r_iinc X dX12_hide_121 0 rfl (v := (1 : Int32)) (by decide) (by decide) (LL := fun v25 => [(4, .int v25), (3, .int a23.1), (2, .int v8), (0, .ref (tw_zB z + 442))]) (fun _ => rfl) (fun v25 => ?_)
                refine r_goto X dX12_hide_124 (tgt := 80) (by decide) ?_
                exact hk18 (a23.1, v25, a23.2)
              refine r_if_ne X dX12_hide_99 (tgt := 105) (by decide) ?_ ?_
              ·
                refine r_iload_n X dX12_hide_105 rfl 1 rfl ?_
                refine r_jn (α := tw_Sg) (σJ := fun a26 => a26) (pcJ := 118) (LJ := fun a26 => [(4, .int a17.2.1), (3, .int a17.1), (2, .int v8), (0, .ref (tw_zB z + 442))]) (stJ := fun a26 => []) (ok := fun a26 => True) (fun a26 hoka26 => ?_) (fun j27 hj27 => ?_)
                ·
                  refine r_iinc X dX12_hide_118 1 rfl (v := (-1 : Int32)) (by decide) (by decide) (LL := fun v28 => [(3, .int v28), (4, .int a17.2.1), (2, .int v8), (0, .ref (tw_zB z + 442))]) (fun _ => rfl) (fun v28 => ?_)
                  exact tw_Rf.sub [1, 0, 2, 3] rfl (hj24 (v28, a26) trivial)
                refine r_if_ne X dX12_hide_106 (tgt := 118) (by decide) ?_ ?_
                ·
                  exact hj27 r22.2 trivial
                ·
                  refine r_aload_n X dX12_hide_109 rfl 3 rfl ?_
                  refine tw_g12_8 (k := 442) (v := .ref (tw_zB z + 444)) X dX12_hide_110 _ tw_w1260 tw_kc442 rfl ?_
                  refine r_bipush X dX12_hide_113 (v := (7 : Int32)) (by decide) ?_
                  refine r_iload X dX12_hide_115 0 rfl ?_
                  refine r_iast (k := 444) X dX12_hide_117 tw_kc444 (fun σ29 => ?_)
                  exact hj27 σ29 trivial
              ·
                refine r_goto X dX12_hide_102 (tgt := 121) (by decide) ?_
                exact hj24 (a17.1, r22.2) trivial
        refine r_if_ne X dX12_hide_60 (tgt := 67) (by decide) ?_ ?_
        ·
          refine r_iconst X dX12_hide_67 (v := (1 : Int32)) (by decide) ?_
          exact hj13 (1 : Int32) trivial
        ·
          refine r_iconst X dX12_hide_63 (v := (0 : Int32)) (by decide) ?_
          refine r_goto X dX12_hide_64 (tgt := 68) (by decide) ?_
          exact hj13 (0 : Int32) trivial
      refine r_if_ne X dX12_hide_42 (tgt := 49) (by decide) ?_ ?_
      ·
        refine r_iload_n X dX12_hide_49 rfl 2 rfl ?_
        refine r_iload_n X dX12_hide_50 rfl 0 rfl ?_
        refine r_irem X dX12_hide_51 ?_
        exact tw_Rf.sub [0, 1] rfl (hj10 (x0 - x0 / v8 * v8) trivial)
      ·
        refine r_iconst X dX12_hide_45 (v := (0 : Int32)) (by decide) ?_
        refine r_goto X dX12_hide_46 (tgt := 52) (by decide) ?_
        exact tw_Rf.sub [0, 1] rfl (hj10 (0 : Int32) trivial)
    ·
      refine r_iconst X dX12_hide_29 (v := (0 : Int32)) (by decide) ?_
      exact r_iret X dX12_hide_30 hret hQ rfl
  refine r_if_ne X dX12_hide_14 (tgt := 21) (by decide) ?_ ?_
  ·
    refine r_iconst X dX12_hide_21 (v := (0 : Int32)) (by decide) ?_
    exact hj4 (0 : Int32) trivial
  ·
    refine r_iconst X dX12_hide_17 (v := (1 : Int32)) (by decide) ?_
    refine r_goto X dX12_hide_18 (tgt := 22) (by decide) ?_
    exact hj4 (1 : Int32) trivial
theorem tw_c_X12_hide {ρ : Type} {z : tw_Z} {cc : ByteArray} {own : String} {nL pc : Nat} {σ : tw_Sg} {L : List (Nat × Value)} {st : List Value} {ix : Nat} {n : Nat} {x0 : Int32} (X : tw_X z cc own nL) (d : decode cc pc = .ok (.invokevirtual ix, 3)) (i : Nat) (hi : lw_tbl[i]? = some (.methodLink own ix yX12_hide))  {res : ρ} {E : Option ρ} {r : Int32 × tw_Sg} (h : tw_P_X12_hide n x0 σ = some r) (h1 : 11 ≤ (tw_zR z).frames) (h2 : 262 ≤ (tw_zR z).locals) (hcs : tw_zcells z ≤ (tw_zR z).cells ∧ tw_zslots z ≤ (tw_zR z).slots) (hst : (st.map fun v => v.category).sum ≤ 8) (_ : True) (kk : tw_Rf z res E r.2 (pc + 3) L (.int r.1 :: st)) : tw_Rf z res E σ pc L (.int x0 :: .ref (tw_zB z + 442) :: st) := r_callV (As := [.int x0]) X d (tw_m_X12_hide  h) tw_y_X12_hide tw_v_X12_hide i hi rfl (tw_kd_lt tw_kc442 (by decide)) (tw_E12 tw_kc442) rfl ⟨rfl, rfl, h1, h2⟩ hcs hst rfl kk
