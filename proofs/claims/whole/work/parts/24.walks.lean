def tw_P_X12_turn (n : Nat) (x0 : Int32) (x1 : Int32) (σ : tw_Sg) : Option (Int32 × tw_Sg) :=
tw_lt (tw_up σ 442 0 (0 : Int32)) (fun (σ1 : tw_Sg) =>
tw_ck (tw_ok (2 : Int32) (tw_ln 444)) (
tw_bd (tw_P_X12_in x0 (0 : Int32) ((σ1 444 (Int32.toNatClampNeg (2 : Int32))) - (1 : Int32)) σ1) (fun r2 =>
tw_jn (fun (a3 : Int32) =>
tw_bd (tw_P_X12_fails a3 (1 : Int32) σ1) (fun r5 =>
tw_jn (fun (a6 : tw_Sg) =>
some ((0 : Int32), a6)) (fun (j7 : (tw_Sg) → Option (Int32 × tw_Sg)) =>
if ¬ r5.1 = 0 then (j7 r5.2)
else (tw_bd (tw_P_X12_in x1 (-3 : Int32) (3 : Int32) r5.2) (fun r8 =>
tw_jn (fun (a9 : Int32) =>
tw_bd (tw_P_X12_fails a9 (2 : Int32) r5.2) (fun r11 =>
if r11.1 = 0 then (tw_bd (tw_P_X12_remember n r11.2) (fun r12 =>
tw_bd (tw_P_X12_bendAt x0 r12) (fun r13 =>
tw_lt (r13 + (4 : Int32)) (fun (v14 : Int32) =>
tw_ck (tw_ok v14 (tw_ln 444)) (
tw_lt (r12 444 (Int32.toNatClampNeg v14)) (fun (v15 : Int32) =>
tw_ck (tw_ok v14 (tw_ln 444)) (tw_lt (tw_up r12 444 (Int32.toNatClampNeg v14) x1) (fun (σ16 : tw_Sg) =>
some (v15, σ16)))))))))
else (j7 r11.2))) (fun (j10 : (Int32) → Option (Int32 × tw_Sg)) =>
if ¬ r8 = 0 then (j10 (0 : Int32))
else (j10 (1 : Int32)))))))) (fun (j4 : (Int32) → Option (Int32 × tw_Sg)) =>
if ¬ r2 = 0 then (j4 (0 : Int32))
else (j4 (1 : Int32))))))
theorem tw_y_X12_turn : tw_My yX12_turn cX12_turn 5 (some .int) 2 := ⟨List.mem_of_getElem? tw_w1696, List.mem_of_getElem? tw_w101, by decide +kernel, by decide +kernel, by decide +kernel⟩
theorem tw_v_X12_turn : tw_Mv yX12_turn "TreasureWalkModel" := ⟨List.mem_of_getElem? tw_w1694, List.mem_of_getElem? tw_w1695, rfl⟩
set_option maxRecDepth 100000 in
set_option maxHeartbeats 4000000 in
theorem tw_m_X12_turn {l : Launch} {B : Nat} {D : va_G} {C : Nat → ClassId} {S : Nat → Nat} {n : Nat} {x0 : Int32} {x1 : Int32} {σ : tw_Sg}  {r : Int32 × tw_Sg} (h : tw_P_X12_turn n x0 x1 σ = some r) : tw_Met l B D C S yX12_turn cX12_turn 5 (some .int) ({ frames := 2, cells := 0, slots := 0, locals := 43 } : Room) [.ref (B + 442), .int x0, .int x1] σ (some (.int r.1)) r.2 := by
  refine tw_metOfP (tw_P_X12_turn n x0 x1 σ) r h (fun r => (some (.int r.1), r.2)) (by decide +kernel) (Nat.le_of_ble_eq_true rfl) ⟨rfl, rfl⟩ ?_
  intro z el eB eD eC eS hfr hlo hcs X hret hQ
  subst el eB eD eC eS
  have X : tw_X z cX12_turn "TreasureWalkModel" 5 := X
  show tw_Rf z r _ σ 0 [(0, .ref (tw_zB z + 442)), (1, .int x0), (2, .int x1)] []
  unfold tw_P_X12_turn
  refine r_aload_n X dX12_turn_0 rfl 0 rfl ?_
  refine r_iconst X dX12_turn_1 (v := (0 : Int32)) (by decide) ?_
  refine tw_s12_0 (k := 442) X dX12_turn_2 _ tw_w1252 tw_kc442 (fun σ1 => ?_)
  refine r_aload_n X dX12_turn_5 rfl 0 rfl ?_
  refine r_iload_n X dX12_turn_6 rfl 1 rfl ?_
  refine r_iconst X dX12_turn_7 (v := (0 : Int32)) (by decide) ?_
  refine r_aload_n X dX12_turn_8 rfl 0 rfl ?_
  refine tw_g12_8 (k := 442) (v := .ref (tw_zB z + 444)) X dX12_turn_9 _ tw_w1260 tw_kc442 rfl ?_
  refine r_iconst X dX12_turn_12 (v := (2 : Int32)) (by decide) ?_
  refine r_iald (k := 444) X dX12_turn_13 tw_kc444 ?_
  refine r_iconst X dX12_turn_14 (v := (1 : Int32)) (by decide) ?_
  refine r_isub X dX12_turn_15 ?_
  refine r_bd (fun r2 hr2 => ?_)
  refine tw_c_X12_in X dX12_turn_16 _ tw_w1359  hr2 (tw_le hfr rfl) (tw_le hlo rfl) hcs (Nat.le_of_ble_eq_true rfl) trivial ?_
  refine r_jn (α := Int32) (σJ := fun a3 => σ1) (pcJ := 27) (LJ := fun a3 => [(0, .ref (tw_zB z + 442)), (1, .int x0), (2, .int x1)]) (stJ := fun a3 => [.int a3, .ref (tw_zB z + 442)]) (ok := fun a3 => True) (fun a3 hoka3 => ?_) (fun j4 hj4 => ?_)
  ·
    refine r_iconst X dX12_turn_27 (v := (1 : Int32)) (by decide) ?_
    refine r_bd (fun r5 hr5 => ?_)
    refine tw_c_X12_fails X dX12_turn_28 _ tw_w1362  hr5 (tw_le hfr rfl) (tw_le hlo rfl) hcs (Nat.le_of_ble_eq_true rfl) trivial ?_
    refine r_jn (α := tw_Sg) (σJ := fun a6 => a6) (pcJ := 57) (LJ := fun a6 => []) (stJ := fun a6 => []) (ok := fun a6 => True) (fun a6 hoka6 => ?_) (fun j7 hj7 => ?_)
    ·
      refine r_iconst X dX12_turn_57 (v := (0 : Int32)) (by decide) ?_
      exact r_iret X dX12_turn_58 hret hQ rfl
    refine r_if_ne X dX12_turn_31 (tgt := 57) (by decide) ?_ ?_
    ·
      exact tw_Rf.sub [] rfl (hj7 r5.2 trivial)
    ·
      refine r_aload_n X dX12_turn_34 rfl 0 rfl ?_
      refine r_iload_n X dX12_turn_35 rfl 2 rfl ?_
      refine r_bipush X dX12_turn_36 (v := (-3 : Int32)) (by decide) ?_
      refine r_iconst X dX12_turn_38 (v := (3 : Int32)) (by decide) ?_
      refine r_bd (fun r8 hr8 => ?_)
      refine tw_c_X12_in X dX12_turn_39 _ tw_w1359  hr8 (tw_le hfr rfl) (tw_le hlo rfl) hcs (Nat.le_of_ble_eq_true rfl) trivial ?_
      refine r_jn (α := Int32) (σJ := fun a9 => r5.2) (pcJ := 50) (LJ := fun a9 => [(0, .ref (tw_zB z + 442)), (1, .int x0), (2, .int x1)]) (stJ := fun a9 => [.int a9, .ref (tw_zB z + 442)]) (ok := fun a9 => True) (fun a9 hoka9 => ?_) (fun j10 hj10 => ?_)
      ·
        refine r_iconst X dX12_turn_50 (v := (2 : Int32)) (by decide) ?_
        refine r_bd (fun r11 hr11 => ?_)
        refine tw_c_X12_fails X dX12_turn_51 _ tw_w1362  hr11 (tw_le hfr rfl) (tw_le hlo rfl) hcs (Nat.le_of_ble_eq_true rfl) trivial ?_
        refine r_if_eq X dX12_turn_54 (tgt := 59) (by decide) ?_ ?_
        ·
          refine r_aload_n X dX12_turn_59 rfl 0 rfl ?_
          refine r_bd (fun r12 hr12 => ?_)
          refine tw_c_X12_remember X dX12_turn_60 _ tw_w1492  hr12 (tw_le hfr rfl) (tw_le hlo rfl) hcs (Nat.le_of_ble_eq_true rfl) trivial ?_
          refine r_iload_n X dX12_turn_63 rfl 1 rfl ?_
          refine r_bd (fun r13 hr13 => ?_)
          refine tw_c_X12_bendAt X dX12_turn_64 _ tw_w1434  hr13 (tw_le hfr rfl) (tw_le hlo rfl) hcs (Nat.le_of_ble_eq_true rfl) trivial ?_
          refine r_iconst X dX12_turn_67 (v := (4 : Int32)) (by decide) ?_
          refine r_iadd X dX12_turn_68 ?_
          refine r_istore_n X dX12_turn_69 rfl (by decide) (LL := fun v14 => [(3, .int v14), (0, .ref (tw_zB z + 442)), (1, .int x0), (2, .int x1)]) (fun _ => rfl) (fun v14 => ?_)
          refine r_aload_n X dX12_turn_70 rfl 1 rfl ?_
          refine tw_g12_8 (k := 442) (v := .ref (tw_zB z + 444)) X dX12_turn_71 _ tw_w1260 tw_kc442 rfl ?_
          refine r_iload_n X dX12_turn_74 rfl 0 rfl ?_
          refine r_iald (k := 444) X dX12_turn_75 tw_kc444 ?_
          refine r_istore X dX12_turn_76 (by decide) (LL := fun v15 => [(4, .int v15), (3, .int v14), (0, .ref (tw_zB z + 442)), (1, .int x0), (2, .int x1)]) (fun _ => rfl) (fun v15 => ?_)
          refine r_aload_n X dX12_turn_78 rfl 2 rfl ?_
          refine tw_g12_8 (k := 442) (v := .ref (tw_zB z + 444)) X dX12_turn_79 _ tw_w1260 tw_kc442 rfl ?_
          refine r_iload_n X dX12_turn_82 rfl 1 rfl ?_
          refine r_iload_n X dX12_turn_83 rfl 4 rfl ?_
          refine r_iast (k := 444) X dX12_turn_84 tw_kc444 (fun σ16 => ?_)
          refine r_iload X dX12_turn_85 0 rfl ?_
          exact r_iret X dX12_turn_87 hret hQ rfl
        ·
          exact tw_Rf.sub [] rfl (hj7 r11.2 trivial)
      refine r_if_ne X dX12_turn_42 (tgt := 49) (by decide) ?_ ?_
      ·
        refine r_iconst X dX12_turn_49 (v := (0 : Int32)) (by decide) ?_
        exact hj10 (0 : Int32) trivial
      ·
        refine r_iconst X dX12_turn_45 (v := (1 : Int32)) (by decide) ?_
        refine r_goto X dX12_turn_46 (tgt := 50) (by decide) ?_
        exact hj10 (1 : Int32) trivial
  refine r_if_ne X dX12_turn_19 (tgt := 26) (by decide) ?_ ?_
  ·
    refine r_iconst X dX12_turn_26 (v := (0 : Int32)) (by decide) ?_
    exact hj4 (0 : Int32) trivial
  ·
    refine r_iconst X dX12_turn_22 (v := (1 : Int32)) (by decide) ?_
    refine r_goto X dX12_turn_23 (tgt := 27) (by decide) ?_
    exact hj4 (1 : Int32) trivial
theorem tw_c_X12_turn {ρ : Type} {z : tw_Z} {cc : ByteArray} {own : String} {nL pc : Nat} {σ : tw_Sg} {L : List (Nat × Value)} {st : List Value} {ix : Nat} {n : Nat} {x0 : Int32} {x1 : Int32} (X : tw_X z cc own nL) (d : decode cc pc = .ok (.invokevirtual ix, 3)) (i : Nat) (hi : lw_tbl[i]? = some (.methodLink own ix yX12_turn))  {res : ρ} {E : Option ρ} {r : Int32 × tw_Sg} (h : tw_P_X12_turn n x0 x1 σ = some r) (h1 : 3 ≤ (tw_zR z).frames) (h2 : 67 ≤ (tw_zR z).locals) (hcs : tw_zcells z ≤ (tw_zR z).cells ∧ tw_zslots z ≤ (tw_zR z).slots) (hst : (st.map fun v => v.category).sum ≤ 8) (_ : True) (kk : tw_Rf z res E r.2 (pc + 3) L (.int r.1 :: st)) : tw_Rf z res E σ pc L (.int x1 :: .int x0 :: .ref (tw_zB z + 442) :: st) := r_callV (As := [.int x0, .int x1]) X d (tw_m_X12_turn  h) tw_y_X12_turn tw_v_X12_turn i hi rfl (tw_kd_lt tw_kc442 (by decide)) (tw_E12 tw_kc442) rfl ⟨rfl, rfl, h1, h2⟩ hcs hst rfl kk
def tw_P_X12_undo (n : Nat)  (σ : tw_Sg) : Option (Int32 × tw_Sg) :=
tw_lt (tw_up σ 442 0 (0 : Int32)) (fun (σ1 : tw_Sg) =>
if ¬ (σ1 442 11) = 0 then (tw_lt (tw_up σ1 442 11 ((σ1 442 11) - (1 : Int32))) (fun (σ2 : tw_Sg) =>
tw_ck (tw_ok (σ2 442 11) (tw_ln 446)) (
tw_bd (tw_P_X12_copy n (446 + 1 + 1 * Int32.toNatClampNeg (σ2 442 11)) 444 σ2) (fun r4 =>
tw_lt (tw_up r4 442 22 (0 : Int32)) (fun (σ5 : tw_Sg) =>
some ((σ5 442 11), σ5))))))
else (some ((-1 : Int32), σ1)))
theorem tw_y_X12_undo : tw_My yX12_undo cX12_undo 1 (some .int) 0 := ⟨List.mem_of_getElem? tw_w1700, List.mem_of_getElem? tw_w101, by decide +kernel, by decide +kernel, by decide +kernel⟩
theorem tw_v_X12_undo : tw_Mv yX12_undo "TreasureWalkModel" := ⟨List.mem_of_getElem? tw_w1698, List.mem_of_getElem? tw_w1699, rfl⟩
set_option maxRecDepth 100000 in
set_option maxHeartbeats 4000000 in
theorem tw_m_X12_undo {l : Launch} {B : Nat} {D : va_G} {C : Nat → ClassId} {S : Nat → Nat} {n : Nat}  {σ : tw_Sg}  {r : Int32 × tw_Sg} (h : tw_P_X12_undo n σ = some r) : tw_Met l B D C S yX12_undo cX12_undo 1 (some .int) ({ frames := 1, cells := 0, slots := 0, locals := 22 } : Room) [.ref (B + 442)] σ (some (.int r.1)) r.2 := by
  refine tw_metOfP (tw_P_X12_undo n σ) r h (fun r => (some (.int r.1), r.2)) (by decide +kernel) (Nat.le_of_ble_eq_true rfl) ⟨rfl, rfl⟩ ?_
  intro z el eB eD eC eS hfr hlo hcs X hret hQ
  subst el eB eD eC eS
  have X : tw_X z cX12_undo "TreasureWalkModel" 1 := X
  show tw_Rf z r _ σ 0 [(0, .ref (tw_zB z + 442))] []
  unfold tw_P_X12_undo
  refine r_aload_n X dX12_undo_0 rfl 0 rfl ?_
  refine r_iconst X dX12_undo_1 (v := (0 : Int32)) (by decide) ?_
  refine tw_s12_0 (k := 442) X dX12_undo_2 _ tw_w1252 tw_kc442 (fun σ1 => ?_)
  refine r_aload_n X dX12_undo_5 rfl 0 rfl ?_
  refine tw_g12_11 (k := 442) (v := .int (σ1 442 11)) X dX12_undo_6 _ tw_w1263 tw_kc442 rfl ?_
  refine r_if_ne X dX12_undo_9 (tgt := 14) (by decide) ?_ ?_
  ·
    refine r_aload_n X dX12_undo_14 rfl 0 rfl ?_
    refine r_dup X dX12_undo_15 rfl ?_
    refine tw_g12_11 (k := 442) (v := .int (σ1 442 11)) X dX12_undo_16 _ tw_w1263 tw_kc442 rfl ?_
    refine r_iconst X dX12_undo_19 (v := (1 : Int32)) (by decide) ?_
    refine r_isub X dX12_undo_20 ?_
    refine tw_s12_11 (k := 442) X dX12_undo_21 _ tw_w1263 tw_kc442 (fun σ2 => ?_)
    refine r_aload_n X dX12_undo_24 rfl 0 rfl ?_
    refine tw_g12_10 (k := 442) (v := .ref (tw_zB z + 446)) X dX12_undo_25 _ tw_w1262 tw_kc442 rfl ?_
    refine r_aload_n X dX12_undo_28 rfl 0 rfl ?_
    refine tw_g12_11 (k := 442) (v := .int (σ2 442 11)) X dX12_undo_29 _ tw_w1263 tw_kc442 rfl ?_
    refine r_aald (k := 446) (r := 446 + 1 + 1 * Int32.toNatClampNeg (σ2 442 11)) X dX12_undo_32 (tw_kd_lt tw_kc446 (by decide)) (tw_E17 tw_kc446) rfl rfl rfl (fun h3 => ?_)
    refine r_aload_n X dX12_undo_33 rfl 0 rfl ?_
    refine tw_g12_8 (k := 442) (v := .ref (tw_zB z + 444)) X dX12_undo_34 _ tw_w1260 tw_kc442 rfl ?_
    refine r_bd (fun r4 hr4 => ?_)
    refine tw_c_X12_copy X dX12_undo_37 _ tw_w1496 (tw_ke17 tw_kc446 (tw_ok_lt h3)) tw_kc444 hr4 (tw_le hfr rfl) (tw_le hlo rfl) hcs (Nat.le_of_ble_eq_true rfl) trivial ?_
    refine r_aload_n X dX12_undo_40 rfl 0 rfl ?_
    refine r_iconst X dX12_undo_41 (v := (0 : Int32)) (by decide) ?_
    refine tw_s12_22 (k := 442) X dX12_undo_42 _ tw_w1274 tw_kc442 (by decide) (fun σ5 => ?_)
    refine r_aload_n X dX12_undo_45 rfl 0 rfl ?_
    refine tw_g12_11 (k := 442) (v := .int (σ5 442 11)) X dX12_undo_46 _ tw_w1263 tw_kc442 rfl ?_
    exact r_iret X dX12_undo_49 hret hQ rfl
  ·
    refine r_iconst X dX12_undo_12 (v := (-1 : Int32)) (by decide) ?_
    exact r_iret X dX12_undo_13 hret hQ rfl
theorem tw_c_X12_undo {ρ : Type} {z : tw_Z} {cc : ByteArray} {own : String} {nL pc : Nat} {σ : tw_Sg} {L : List (Nat × Value)} {st : List Value} {ix : Nat} {n : Nat}  (X : tw_X z cc own nL) (d : decode cc pc = .ok (.invokevirtual ix, 3)) (i : Nat) (hi : lw_tbl[i]? = some (.methodLink own ix yX12_undo))  {res : ρ} {E : Option ρ} {r : Int32 × tw_Sg} (h : tw_P_X12_undo n σ = some r) (h1 : 2 ≤ (tw_zR z).frames) (h2 : 42 ≤ (tw_zR z).locals) (hcs : tw_zcells z ≤ (tw_zR z).cells ∧ tw_zslots z ≤ (tw_zR z).slots) (hst : (st.map fun v => v.category).sum ≤ 8) (_ : True) (kk : tw_Rf z res E r.2 (pc + 3) L (.int r.1 :: st)) : tw_Rf z res E σ pc L (.ref (tw_zB z + 442) :: st) := r_callV (As := []) X d (tw_m_X12_undo  h) tw_y_X12_undo tw_v_X12_undo i hi rfl (tw_kd_lt tw_kc442 (by decide)) (tw_E12 tw_kc442) rfl ⟨rfl, rfl, h1, h2⟩ hcs hst rfl kk
def tw_P_X12_checksum (n : Nat)  (σ : tw_Sg) : Option (Int64 × tw_Sg) :=
tw_lt (tw_up σ 442 0 (0 : Int32)) (fun (σ1 : tw_Sg) =>
tw_lt (0 : Int64) (fun (v2 : Int64) =>
tw_lt (0 : Int32) (fun (v3 : Int32) =>
tw_lp (fun (k5 : (Int64 × Int32 × tw_Sg) → Option (Int64 × tw_Sg)) (a4 : Int64 × Int32 × tw_Sg) =>
if (13 : Int32) ≤ a4.2.1 then (tw_lt (0 : Int32) (fun (v6 : Int32) =>
tw_lp (fun (k8 : (Int64 × Int32 × tw_Sg) → Option (Int64 × tw_Sg)) (a7 : Int64 × Int32 × tw_Sg) =>
tw_bd (tw_P_X12_cells a7.2.2) (fun r9 =>
if r9 ≤ a7.2.1 then (tw_lt (0 : Int32) (fun (v10 : Int32) =>
tw_lp (fun (k12 : (Int64 × Int32 × tw_Sg) → Option (Int64 × tw_Sg)) (a11 : Int64 × Int32 × tw_Sg) =>
tw_ck (tw_ok (3 : Int32) (tw_ln 444)) (
if (a11.2.2 444 (Int32.toNatClampNeg (3 : Int32))) ≤ a11.2.1 then (some (a11.1, a11.2.2))
else (tw_bd (tw_P_X12_clueAt a11.2.1 a11.2.2) (fun r13 =>
tw_ck (tw_ok (r13 + (0 : Int32)) (tw_ln 444)) (
tw_lt (((31 : Int64) * a11.1) + (Int32.toInt64 (a11.2.2 444 (Int32.toNatClampNeg (r13 + (0 : Int32)))))) (fun (v14 : Int64) =>
tw_lt (0 : Int32) (fun (v15 : Int32) =>
tw_lp (fun (k17 : (Int64 × Int32 × Int32 × tw_Sg) → Option (Int64 × tw_Sg)) (a16 : Int64 × Int32 × Int32 × tw_Sg) =>
tw_bd (tw_P_X12_legs a16.2.1 a16.2.2.2) (fun r18 =>
if r18 < a16.2.2.1 then (tw_lt (a16.2.1 + (1 : Int32)) (fun (v19 : Int32) =>
k12 (a16.1, v19, a16.2.2.2)))
else (tw_bd (tw_P_X12_reachedBy n a16.2.1 a16.2.2.1 a16.2.2.2) (fun r20 =>
tw_lt (((31 : Int64) * a16.1) + (Int32.toInt64 r20.1)) (fun (v21 : Int64) =>
tw_lt (a16.2.2.1 + (1 : Int32)) (fun (v22 : Int32) =>
k17 (v21, a16.2.1, v22, r20.2))))))) n (v14, a11.2.1, v15, a11.2.2)))))))) n (a7.1, v10, a7.2.2)))
else (tw_bd (tw_P_X12_toldCell n a7.2.1 a7.2.2) (fun r23 =>
tw_lt (((31 : Int64) * a7.1) + (Int32.toInt64 r23.1)) (fun (v24 : Int64) =>
tw_lt (a7.2.1 + (1 : Int32)) (fun (v25 : Int32) =>
k8 (v24, v25, r23.2))))))) n (a4.1, v6, a4.2.2)))
else (tw_bd (tw_P_X12_told n a4.2.1 a4.2.2) (fun r26 =>
tw_lt (((31 : Int64) * a4.1) + (Int32.toInt64 r26.1)) (fun (v27 : Int64) =>
tw_lt (a4.2.1 + (1 : Int32)) (fun (v28 : Int32) =>
k5 (v27, v28, r26.2)))))) n (v2, v3, σ1))))
theorem tw_y_X12_checksum : tw_My yX12_checksum cX12_checksum 5 (some .long) 0 := ⟨List.mem_of_getElem? tw_w1704, List.mem_of_getElem? tw_w101, by decide +kernel, by decide +kernel, by decide +kernel⟩
theorem tw_v_X12_checksum : tw_Mv yX12_checksum "TreasureWalkModel" := ⟨List.mem_of_getElem? tw_w1702, List.mem_of_getElem? tw_w1703, rfl⟩
set_option maxRecDepth 100000 in
set_option maxHeartbeats 4000000 in
theorem tw_m_X12_checksum {l : Launch} {B : Nat} {D : va_G} {C : Nat → ClassId} {S : Nat → Nat} {n : Nat}  {σ : tw_Sg}  {r : Int64 × tw_Sg} (h : tw_P_X12_checksum n σ = some r) : tw_Met l B D C S yX12_checksum cX12_checksum 5 (some .long) ({ frames := 11, cells := 0, slots := 0, locals := 262 } : Room) [.ref (B + 442)] σ (some (.long r.1)) r.2 := by
  refine tw_metOfP (tw_P_X12_checksum n σ) r h (fun r => (some (.long r.1), r.2)) (by decide +kernel) (Nat.le_of_ble_eq_true rfl) ⟨rfl, rfl⟩ ?_
  intro z el eB eD eC eS hfr hlo hcs X hret hQ
  subst el eB eD eC eS
  have X : tw_X z cX12_checksum "TreasureWalkModel" 5 := X
  show tw_Rf z r _ σ 0 [(0, .ref (tw_zB z + 442))] []
  unfold tw_P_X12_checksum
  refine r_aload_n X dX12_checksum_0 rfl 0 rfl ?_
  refine r_iconst X dX12_checksum_1 (v := (0 : Int32)) (by decide) ?_
  refine tw_s12_0 (k := 442) X dX12_checksum_2 _ tw_w1252 tw_kc442 (fun σ1 => ?_)
  refine r_lconst X dX12_checksum_5 (v := (0 : Int64)) (by decide) ?_
  refine r_lstore_n X dX12_checksum_6 rfl (by decide) (LL := fun v2 => [(1, .long v2), (0, .ref (tw_zB z + 442))]) (fun _ => rfl) (fun v2 => ?_)
  refine r_iconst X dX12_checksum_7 (v := (0 : Int32)) (by decide) ?_
  refine r_istore_n X dX12_checksum_8 rfl (by decide) (LL := fun v3 => [(3, .int v3), (1, .long v2), (0, .ref (tw_zB z + 442))]) (fun _ => rfl) (fun v3 => ?_)
  refine r_lp (α := Int64 × Int32 × tw_Sg) (σJ := fun a4 => a4.2.2) (pcJ := 9) (LJ := fun a4 => [(3, .int a4.2.1), (1, .long a4.1), (0, .ref (tw_zB z + 442))]) (stJ := fun a4 => []) (fun k5 hk5 a4 => ?_) n (v2, v3, σ1)
  refine r_iload_n X dX12_checksum_9 rfl 0 rfl ?_
  refine r_bipush X dX12_checksum_10 (v := (13 : Int32)) (by decide) ?_
  refine r_icmp_ge X dX12_checksum_12 (tgt := 34) (by decide) ?_ ?_
  ·
    refine r_iconst X dX12_checksum_34 (v := (0 : Int32)) (by decide) ?_
    refine r_istore_n X dX12_checksum_35 rfl (by decide) (LL := fun v6 => [(3, .int v6), (1, .long a4.1), (0, .ref (tw_zB z + 442))]) (fun _ => rfl) (fun v6 => ?_)
    refine r_lp (α := Int64 × Int32 × tw_Sg) (σJ := fun a7 => a7.2.2) (pcJ := 36) (LJ := fun a7 => [(3, .int a7.2.1), (1, .long a7.1), (0, .ref (tw_zB z + 442))]) (stJ := fun a7 => []) (fun k8 hk8 a7 => ?_) n (a4.1, v6, a4.2.2)
    refine r_iload_n X dX12_checksum_36 rfl 0 rfl ?_
    refine r_aload_n X dX12_checksum_37 rfl 2 rfl ?_
    refine r_bd (fun r9 hr9 => ?_)
    refine tw_c_X12_cells X dX12_checksum_38 _ tw_w1523  hr9 (tw_le hfr rfl) (tw_le hlo rfl) hcs (Nat.le_of_ble_eq_true rfl) trivial ?_
    refine r_icmp_ge X dX12_checksum_41 (tgt := 63) (by decide) ?_ ?_
    ·
      refine r_iconst X dX12_checksum_63 (v := (0 : Int32)) (by decide) ?_
      refine r_istore_n X dX12_checksum_64 rfl (by decide) (LL := fun v10 => [(3, .int v10), (1, .long a7.1), (0, .ref (tw_zB z + 442))]) (fun _ => rfl) (fun v10 => ?_)
      refine r_lp (α := Int64 × Int32 × tw_Sg) (σJ := fun a11 => a11.2.2) (pcJ := 65) (LJ := fun a11 => [(3, .int a11.2.1), (1, .long a11.1), (0, .ref (tw_zB z + 442))]) (stJ := fun a11 => []) (fun k12 hk12 a11 => ?_) n (a7.1, v10, a7.2.2)
      refine r_iload_n X dX12_checksum_65 rfl 0 rfl ?_
      refine r_aload_n X dX12_checksum_66 rfl 2 rfl ?_
      refine tw_g12_8 (k := 442) (v := .ref (tw_zB z + 444)) X dX12_checksum_67 _ tw_w1260 tw_kc442 rfl ?_
      refine r_iconst X dX12_checksum_70 (v := (3 : Int32)) (by decide) ?_
      refine r_iald (k := 444) X dX12_checksum_71 tw_kc444 ?_
      refine r_icmp_ge X dX12_checksum_72 (tgt := 134) (by decide) ?_ ?_
      ·
        refine r_lload_n X dX12_checksum_134 rfl 1 rfl ?_
        exact r_lret X dX12_checksum_135 hret hQ rfl
      ·
        refine r_ldc2 X dX12_checksum_75 (v := (31 : Int64)) _ tw_w1705 ?_
        refine r_lload_n X dX12_checksum_78 rfl 1 rfl ?_
        refine r_lmul X dX12_checksum_79 ?_
        refine r_aload_n X dX12_checksum_80 rfl 2 rfl ?_
        refine tw_g12_8 (k := 442) (v := .ref (tw_zB z + 444)) X dX12_checksum_81 _ tw_w1260 tw_kc442 rfl ?_
        refine r_iload_n X dX12_checksum_84 rfl 0 rfl ?_
        refine r_bd (fun r13 hr13 => ?_)
        refine tw_c_X12_clueAt X dX12_checksum_85 _ tw_w1460  hr13 (tw_le hfr rfl) (tw_le hlo rfl) hcs (Nat.le_of_ble_eq_true rfl) trivial ?_
        refine r_iconst X dX12_checksum_88 (v := (0 : Int32)) (by decide) ?_
        refine r_iadd X dX12_checksum_89 ?_
        refine r_iald (k := 444) X dX12_checksum_90 tw_kc444 ?_
        refine r_i2l X dX12_checksum_91 ?_
        refine r_ladd X dX12_checksum_92 ?_
        refine r_lstore_n X dX12_checksum_93 rfl (by decide) (LL := fun v14 => [(1, .long v14), (3, .int a11.2.1), (0, .ref (tw_zB z + 442))]) (fun _ => rfl) (fun v14 => ?_)
        refine r_iconst X dX12_checksum_94 (v := (0 : Int32)) (by decide) ?_
        refine r_istore X dX12_checksum_95 (by decide) (LL := fun v15 => [(4, .int v15), (1, .long v14), (3, .int a11.2.1), (0, .ref (tw_zB z + 442))]) (fun _ => rfl) (fun v15 => ?_)
        refine r_lp (α := Int64 × Int32 × Int32 × tw_Sg) (σJ := fun a16 => a16.2.2.2) (pcJ := 97) (LJ := fun a16 => [(4, .int a16.2.2.1), (1, .long a16.1), (3, .int a16.2.1), (0, .ref (tw_zB z + 442))]) (stJ := fun a16 => []) (fun k17 hk17 a16 => ?_) n (v14, a11.2.1, v15, a11.2.2)
        refine r_iload X dX12_checksum_97 0 rfl ?_
        refine r_aload_n X dX12_checksum_99 rfl 3 rfl ?_
        refine r_iload_n X dX12_checksum_100 rfl 2 rfl ?_
        refine r_bd (fun r18 hr18 => ?_)
        refine tw_c_X12_legs X dX12_checksum_101 _ tw_w1543  hr18 (tw_le hfr rfl) (tw_le hlo rfl) hcs (Nat.le_of_ble_eq_true rfl) trivial ?_
        refine r_icmp_gt X dX12_checksum_104 (tgt := 128) (by decide) ?_ ?_
        ·
          refine r_iinc X dX12_checksum_128 2 rfl (v := (1 : Int32)) (by decide) (by decide) (LL := fun v19 => [(3, .int v19), (4, .int a16.2.2.1), (1, .long a16.1), (0, .ref (tw_zB z + 442))]) (fun _ => rfl) (fun v19 => ?_)
          refine r_goto X dX12_checksum_131 (tgt := 65) (by decide) ?_
          exact tw_Rf.sub [0, 2, 3] rfl (hk12 (a16.1, v19, a16.2.2.2))
        ·
          refine r_ldc2 X dX12_checksum_107 (v := (31 : Int64)) _ tw_w1705 ?_
          refine r_lload_n X dX12_checksum_110 rfl 1 rfl ?_
          refine r_lmul X dX12_checksum_111 ?_
          refine r_aload_n X dX12_checksum_112 rfl 3 rfl ?_
          refine r_iload_n X dX12_checksum_113 rfl 2 rfl ?_
          refine r_iload X dX12_checksum_114 0 rfl ?_
          refine r_bd (fun r20 hr20 => ?_)
          refine tw_c_X12_reachedBy X dX12_checksum_116 _ tw_w1616  hr20 (tw_le hfr rfl) (tw_le hlo rfl) hcs (Nat.le_of_ble_eq_true rfl) trivial ?_
          refine r_i2l X dX12_checksum_119 ?_
          refine r_ladd X dX12_checksum_120 ?_
          refine r_lstore_n X dX12_checksum_121 rfl (by decide) (LL := fun v21 => [(1, .long v21), (4, .int a16.2.2.1), (3, .int a16.2.1), (0, .ref (tw_zB z + 442))]) (fun _ => rfl) (fun v21 => ?_)
          refine r_iinc X dX12_checksum_122 1 rfl (v := (1 : Int32)) (by decide) (by decide) (LL := fun v22 => [(4, .int v22), (1, .long v21), (3, .int a16.2.1), (0, .ref (tw_zB z + 442))]) (fun _ => rfl) (fun v22 => ?_)
          refine r_goto X dX12_checksum_125 (tgt := 97) (by decide) ?_
          exact hk17 (v21, a16.2.1, v22, r20.2)
    ·
      refine r_ldc2 X dX12_checksum_44 (v := (31 : Int64)) _ tw_w1705 ?_
      refine r_lload_n X dX12_checksum_47 rfl 1 rfl ?_
      refine r_lmul X dX12_checksum_48 ?_
      refine r_aload_n X dX12_checksum_49 rfl 2 rfl ?_
      refine r_iload_n X dX12_checksum_50 rfl 0 rfl ?_
      refine r_bd (fun r23 hr23 => ?_)
      refine tw_c_X12_toldCell X dX12_checksum_51 _ tw_w1600  hr23 (tw_le hfr rfl) (tw_le hlo rfl) hcs (Nat.le_of_ble_eq_true rfl) trivial ?_
      refine r_i2l X dX12_checksum_54 ?_
      refine r_ladd X dX12_checksum_55 ?_
      refine r_lstore_n X dX12_checksum_56 rfl (by decide) (LL := fun v24 => [(1, .long v24), (3, .int a7.2.1), (0, .ref (tw_zB z + 442))]) (fun _ => rfl) (fun v24 => ?_)
      refine r_iinc X dX12_checksum_57 1 rfl (v := (1 : Int32)) (by decide) (by decide) (LL := fun v25 => [(3, .int v25), (1, .long v24), (0, .ref (tw_zB z + 442))]) (fun _ => rfl) (fun v25 => ?_)
      refine r_goto X dX12_checksum_60 (tgt := 36) (by decide) ?_
      exact hk8 (v24, v25, r23.2)
  ·
    refine r_ldc2 X dX12_checksum_15 (v := (31 : Int64)) _ tw_w1705 ?_
    refine r_lload_n X dX12_checksum_18 rfl 1 rfl ?_
    refine r_lmul X dX12_checksum_19 ?_
    refine r_aload_n X dX12_checksum_20 rfl 2 rfl ?_
    refine r_iload_n X dX12_checksum_21 rfl 0 rfl ?_
    refine r_bd (fun r26 hr26 => ?_)
    refine tw_c_X12_told X dX12_checksum_22 _ tw_w1507  hr26 (tw_le hfr rfl) (tw_le hlo rfl) hcs (Nat.le_of_ble_eq_true rfl) trivial ?_
    refine r_i2l X dX12_checksum_25 ?_
    refine r_ladd X dX12_checksum_26 ?_
    refine r_lstore_n X dX12_checksum_27 rfl (by decide) (LL := fun v27 => [(1, .long v27), (3, .int a4.2.1), (0, .ref (tw_zB z + 442))]) (fun _ => rfl) (fun v27 => ?_)
    refine r_iinc X dX12_checksum_28 1 rfl (v := (1 : Int32)) (by decide) (by decide) (LL := fun v28 => [(3, .int v28), (1, .long v27), (0, .ref (tw_zB z + 442))]) (fun _ => rfl) (fun v28 => ?_)
    refine r_goto X dX12_checksum_31 (tgt := 9) (by decide) ?_
    exact hk5 (v27, v28, r26.2)
theorem tw_c_X12_checksum {ρ : Type} {z : tw_Z} {cc : ByteArray} {own : String} {nL pc : Nat} {σ : tw_Sg} {L : List (Nat × Value)} {st : List Value} {ix : Nat} {n : Nat}  (X : tw_X z cc own nL) (d : decode cc pc = .ok (.invokevirtual ix, 3)) (i : Nat) (hi : lw_tbl[i]? = some (.methodLink own ix yX12_checksum))  {res : ρ} {E : Option ρ} {r : Int64 × tw_Sg} (h : tw_P_X12_checksum n σ = some r) (h1 : 12 ≤ (tw_zR z).frames) (h2 : 286 ≤ (tw_zR z).locals) (hcs : tw_zcells z ≤ (tw_zR z).cells ∧ tw_zslots z ≤ (tw_zR z).slots) (hst : (st.map fun v => v.category).sum ≤ 8) (_ : True) (kk : tw_Rf z res E r.2 (pc + 3) L (.long r.1 :: st)) : tw_Rf z res E σ pc L (.ref (tw_zB z + 442) :: st) := r_callV (As := []) X d (tw_m_X12_checksum  h) tw_y_X12_checksum tw_v_X12_checksum i hi rfl (tw_kd_lt tw_kc442 (by decide)) (tw_E12 tw_kc442) rfl ⟨rfl, rfl, h1, h2⟩ hcs hst rfl kk
