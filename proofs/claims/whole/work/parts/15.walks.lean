def tw_P_X10_canEnd (x0 : Int32) (x1 : Int32) (x2 : Int32) (σ : tw_Sg) : Option (Int32) :=
tw_bd (tw_P_X7_get 23 x0 σ) (fun r1 =>
tw_lt r1 (fun (v2 : Int32) =>
if ¬ v2 = 0 then (if ¬ v2 = (1 : Int32) then (tw_bd (tw_P_X7_get 25 x0 σ) (fun r3 =>
tw_bd (tw_P_X10_step x1 r3 σ) (fun r4 =>
tw_jn (fun (a5 : Int32) =>
tw_ck (tw_01 a5) (some a5)) (fun (j6 : (Int32) → Option (Int32)) =>
if ¬ r4 = 0 then (j6 (0 : Int32))
else (j6 (1 : Int32))))))
else (tw_bd (tw_P_X7_get 31 x0 σ) (fun r7 =>
tw_jn (fun (a8 : Int32) =>
tw_ck (tw_01 a8) (some a8)) (fun (j9 : (Int32) → Option (Int32)) =>
if ¬ x1 = r7 then (j9 (0 : Int32))
else (j9 (1 : Int32))))))
else (tw_bd (tw_P_X7_get 27 x0 σ) (fun r10 =>
tw_jn (fun (a11 : Int32) =>
tw_ck (tw_01 a11) (some a11)) (fun (j12 : (Int32) → Option (Int32)) =>
if x2 < r10 then (j12 (0 : Int32))
else (j12 (1 : Int32)))))))
theorem tw_y_X10_canEnd : tw_My yX10_canEnd cX10_canEnd 6 (some .boolean) 3 := ⟨List.mem_of_getElem? tw_w747, List.mem_of_getElem? tw_w94, by decide +kernel, by decide +kernel, by decide +kernel⟩
theorem tw_v_X10_canEnd : tw_Mv yX10_canEnd "TreasureWalk$Trails" := ⟨List.mem_of_getElem? tw_w746, List.mem_of_getElem? tw_w9, rfl⟩
set_option maxRecDepth 100000 in
set_option maxHeartbeats 4000000 in
theorem tw_m_X10_canEnd {l : Launch} {B : Nat} {D : va_G} {C : Nat → ClassId} {S : Nat → Nat} {x0 : Int32} {x1 : Int32} {x2 : Int32} {σ : tw_Sg}  {r : Int32} (h : tw_P_X10_canEnd x0 x1 x2 σ = some r) : tw_Met l B D C S yX10_canEnd cX10_canEnd 6 (some .boolean) ({ frames := 2, cells := 0, slots := 0, locals := 45 } : Room) [.ref (B + 33), .int x0, .int x1, .int x2] σ (some (.int r)) σ := by
  refine tw_metOfP (tw_P_X10_canEnd x0 x1 x2 σ) r h (fun r => (some (.int r), σ)) (by decide +kernel) (Nat.le_of_ble_eq_true rfl) ⟨rfl, rfl⟩ ?_
  intro z el eB eD eC eS hfr hlo hcs X hret hQ
  subst el eB eD eC eS
  have X : tw_X z cX10_canEnd "TreasureWalk$Trails" 6 := X
  show tw_Rf z r _ σ 0 [(0, .ref (tw_zB z + 33)), (1, .int x0), (2, .int x1), (3, .int x2)] []
  unfold tw_P_X10_canEnd
  refine r_aload_n X dX10_canEnd_0 rfl 0 rfl ?_
  refine tw_g10_0 (k := 33) (v := .ref (tw_zB z + 1)) X dX10_canEnd_1 _ tw_w335 tw_kc33 rfl ?_
  refine tw_g2_9N (k := 1) (v := .ref (tw_zB z + 14)) X dX10_canEnd_4 _ tw_w239 tw_kc1 rfl ?_
  refine r_astore X dX10_canEnd_7 (by decide) (L' := [(4, .ref (tw_zB z + 14)), (0, .ref (tw_zB z + 33)), (1, .int x0), (2, .int x1), (3, .int x2)]) rfl ?_
  refine r_aload X dX10_canEnd_9 0 rfl ?_
  refine tw_g1_5N (k := 14) (v := .ref (tw_zB z + 23)) X dX10_canEnd_11 _ tw_w174 tw_kc14 rfl ?_
  refine r_iload_n X dX10_canEnd_14 rfl 2 rfl ?_
  refine r_bd (fun r1 hr1 => ?_)
  refine tw_c_X7_get X dX10_canEnd_15 _ tw_w555 tw_kc23 hr1 (tw_le hfr rfl) (tw_le hlo rfl) hcs (Nat.le_of_ble_eq_true rfl) trivial ?_
  refine r_istore X dX10_canEnd_18 (by decide) (LL := fun v2 => [(5, .int v2), (4, .ref (tw_zB z + 14)), (0, .ref (tw_zB z + 33)), (1, .int x0), (2, .int x1), (3, .int x2)]) (fun _ => rfl) (fun v2 => ?_)
  refine r_iload X dX10_canEnd_20 0 rfl ?_
  refine r_if_ne X dX10_canEnd_22 (tgt := 44) (by decide) ?_ ?_
  ·
    refine r_iload X dX10_canEnd_44 0 rfl ?_
    refine r_iconst X dX10_canEnd_46 (v := (1 : Int32)) (by decide) ?_
    refine r_icmp_ne X dX10_canEnd_47 (tgt := 69) (by decide) ?_ ?_
    ·
      refine r_aload_n X dX10_canEnd_69 rfl 2 rfl ?_
      refine r_iload_n X dX10_canEnd_70 rfl 4 rfl ?_
      refine r_aload X dX10_canEnd_71 1 rfl ?_
      refine tw_g1_6N (k := 14) (v := .ref (tw_zB z + 25)) X dX10_canEnd_73 _ tw_w177 tw_kc14 rfl ?_
      refine r_iload_n X dX10_canEnd_76 rfl 3 rfl ?_
      refine r_bd (fun r3 hr3 => ?_)
      refine tw_c_X7_get X dX10_canEnd_77 _ tw_w555 tw_kc25 hr3 (tw_le hfr rfl) (tw_le hlo rfl) hcs (Nat.le_of_ble_eq_true rfl) trivial ?_
      refine r_bd (fun r4 hr4 => ?_)
      refine tw_c_X10_step X dX10_canEnd_80 _ tw_w748  hr4 (tw_le hfr rfl) (tw_le hlo rfl) hcs (Nat.le_of_ble_eq_true rfl) trivial ?_
      refine r_jn (α := Int32) (σJ := fun a5 => σ) (pcJ := 91) (LJ := fun a5 => []) (stJ := fun a5 => [.int a5]) (ok := fun a5 => True) (fun a5 hoka5 => ?_) (fun j6 hj6 => ?_)
      ·
        exact r_zret X dX10_canEnd_91 hret hQ rfl
      refine r_if_ne X dX10_canEnd_83 (tgt := 90) (by decide) ?_ ?_
      ·
        refine r_iconst X dX10_canEnd_90 (v := (0 : Int32)) (by decide) ?_
        exact tw_Rf.sub [] rfl (hj6 (0 : Int32) trivial)
      ·
        refine r_iconst X dX10_canEnd_86 (v := (1 : Int32)) (by decide) ?_
        refine r_goto X dX10_canEnd_87 (tgt := 91) (by decide) ?_
        exact tw_Rf.sub [] rfl (hj6 (1 : Int32) trivial)
    ·
      refine r_iload_n X dX10_canEnd_50 rfl 4 rfl ?_
      refine r_aload X dX10_canEnd_51 1 rfl ?_
      refine tw_g1_9N (k := 14) (v := .ref (tw_zB z + 31)) X dX10_canEnd_53 _ tw_w186 tw_kc14 rfl ?_
      refine r_iload_n X dX10_canEnd_56 rfl 3 rfl ?_
      refine r_bd (fun r7 hr7 => ?_)
      refine tw_c_X7_get X dX10_canEnd_57 _ tw_w555 tw_kc31 hr7 (tw_le hfr rfl) (tw_le hlo rfl) hcs (Nat.le_of_ble_eq_true rfl) trivial ?_
      refine r_jn (α := Int32) (σJ := fun a8 => σ) (pcJ := 68) (LJ := fun a8 => []) (stJ := fun a8 => [.int a8]) (ok := fun a8 => True) (fun a8 hoka8 => ?_) (fun j9 hj9 => ?_)
      ·
        exact r_zret X dX10_canEnd_68 hret hQ rfl
      refine r_icmp_ne X dX10_canEnd_60 (tgt := 67) (by decide) ?_ ?_
      ·
        refine r_iconst X dX10_canEnd_67 (v := (0 : Int32)) (by decide) ?_
        exact tw_Rf.sub [] rfl (hj9 (0 : Int32) trivial)
      ·
        refine r_iconst X dX10_canEnd_63 (v := (1 : Int32)) (by decide) ?_
        refine r_goto X dX10_canEnd_64 (tgt := 68) (by decide) ?_
        exact tw_Rf.sub [] rfl (hj9 (1 : Int32) trivial)
  ·
    refine r_iload_n X dX10_canEnd_25 rfl 5 rfl ?_
    refine r_aload X dX10_canEnd_26 1 rfl ?_
    refine tw_g1_7N (k := 14) (v := .ref (tw_zB z + 27)) X dX10_canEnd_28 _ tw_w180 tw_kc14 rfl ?_
    refine r_iload_n X dX10_canEnd_31 rfl 3 rfl ?_
    refine r_bd (fun r10 hr10 => ?_)
    refine tw_c_X7_get X dX10_canEnd_32 _ tw_w555 tw_kc27 hr10 (tw_le hfr rfl) (tw_le hlo rfl) hcs (Nat.le_of_ble_eq_true rfl) trivial ?_
    refine r_jn (α := Int32) (σJ := fun a11 => σ) (pcJ := 43) (LJ := fun a11 => []) (stJ := fun a11 => [.int a11]) (ok := fun a11 => True) (fun a11 hoka11 => ?_) (fun j12 hj12 => ?_)
    ·
      exact r_zret X dX10_canEnd_43 hret hQ rfl
    refine r_icmp_lt X dX10_canEnd_35 (tgt := 42) (by decide) ?_ ?_
    ·
      refine r_iconst X dX10_canEnd_42 (v := (0 : Int32)) (by decide) ?_
      exact tw_Rf.sub [] rfl (hj12 (0 : Int32) trivial)
    ·
      refine r_iconst X dX10_canEnd_38 (v := (1 : Int32)) (by decide) ?_
      refine r_goto X dX10_canEnd_39 (tgt := 43) (by decide) ?_
      exact tw_Rf.sub [] rfl (hj12 (1 : Int32) trivial)
theorem tw_c_X10_canEnd {ρ : Type} {z : tw_Z} {cc : ByteArray} {own : String} {nL pc : Nat} {σ : tw_Sg} {L : List (Nat × Value)} {st : List Value} {ix : Nat} {x0 : Int32} {x1 : Int32} {x2 : Int32} (X : tw_X z cc own nL) (d : decode cc pc = .ok (.invokevirtual ix, 3)) (i : Nat) (hi : lw_tbl[i]? = some (.methodLink own ix yX10_canEnd))  {res : ρ} {E : Option ρ} {r : Int32} (h : tw_P_X10_canEnd x0 x1 x2 σ = some r) (h1 : 3 ≤ (tw_zR z).frames) (h2 : 70 ≤ (tw_zR z).locals) (hcs : tw_zcells z ≤ (tw_zR z).cells ∧ tw_zslots z ≤ (tw_zR z).slots) (hst : (st.map fun v => v.category).sum ≤ 8) (_ : True) (kk : tw_Rf z res E σ (pc + 3) L (.int r :: st)) : tw_Rf z res E σ pc L (.int x2 :: .int x1 :: .int x0 :: .ref (tw_zB z + 33) :: st) := r_callV (As := [.int x0, .int x1, .int x2]) X d (tw_m_X10_canEnd  h) tw_y_X10_canEnd tw_v_X10_canEnd i hi rfl (tw_kd_lt tw_kc33 (by decide)) (tw_E10 tw_kc33) rfl ⟨rfl, rfl, h1, h2⟩ hcs hst rfl kk
def tw_P_X10_followLeg (n : Nat) (x0 : Int32) (x1 : Int32) (x2 : Int32) (σ : tw_Sg) : Option (tw_Sg) :=
tw_lt ((x0 * (8 : Int32)) + x1) (fun (v1 : Int32) =>
tw_bd (tw_P_X7_get 29 v1 σ) (fun r2 =>
tw_lt r2 (fun (v3 : Int32) =>
tw_lt x2 (fun (v4 : Int32) =>
tw_lt (0 : Int32) (fun (v5 : Int32) =>
tw_lp (fun (k7 : (Int32 × Int32 × tw_Sg) → Option (tw_Sg)) (a6 : Int32 × Int32 × tw_Sg) =>
tw_jn (fun (a8 : Unit) =>
some a6.2.2) (fun (j9 : (Unit) → Option (tw_Sg)) =>
if v3 < a6.2.1 then (j9 ())
else (if a6.1 = 0 then (j9 ())
else (tw_bd (tw_P_X10_canEnd v1 a6.1 a6.2.1 a6.2.2) (fun r10 =>
tw_jn (fun (a11 : tw_Sg) =>
tw_bd (tw_P_X7_get 25 v1 a11) (fun r13 =>
tw_bd (tw_P_X10_step a6.1 r13 a11) (fun r14 =>
tw_lt r14 (fun (v15 : Int32) =>
tw_lt (a6.2.1 + (1 : Int32)) (fun (v16 : Int32) =>
k7 (v15, v16, a11)))))) (fun (j12 : (tw_Sg) → Option (tw_Sg)) =>
if r10 = 0 then (j12 a6.2.2)
else (tw_bd (tw_P_X10_layer x0 (x1 + (1 : Int32)) a6.2.2) (fun r17 =>
tw_ck (decide (tw_kd r17 = 0)) (
tw_bd (tw_P_X0_add r17 a6.1 a6.2.2) (fun r19 =>
j12 r19)))))))))) n (v4, v5, σ))))))
theorem tw_y_X10_followLeg : tw_My yX10_followLeg cX10_followLeg 8 none 3 := ⟨List.mem_of_getElem? tw_w743, List.mem_of_getElem? tw_w94, by decide +kernel, by decide +kernel, by decide +kernel⟩
theorem tw_v_X10_followLeg : tw_Mv yX10_followLeg "TreasureWalk$Trails" := ⟨List.mem_of_getElem? tw_w742, List.mem_of_getElem? tw_w8, rfl⟩
set_option maxRecDepth 100000 in
set_option maxHeartbeats 4000000 in
theorem tw_m_X10_followLeg {l : Launch} {B : Nat} {D : va_G} {C : Nat → ClassId} {S : Nat → Nat} {n : Nat} {x0 : Int32} {x1 : Int32} {x2 : Int32} {σ : tw_Sg}  {r : tw_Sg} (h : tw_P_X10_followLeg n x0 x1 x2 σ = some r) : tw_Met l B D C S yX10_followLeg cX10_followLeg 8 none ({ frames := 3, cells := 0, slots := 0, locals := 70 } : Room) [.ref (B + 33), .int x0, .int x1, .int x2] σ (none) r := by
  refine tw_metOfP (tw_P_X10_followLeg n x0 x1 x2 σ) r h (fun r => (none, r)) (by decide +kernel) (Nat.le_of_ble_eq_true rfl) ⟨rfl, rfl⟩ ?_
  intro z el eB eD eC eS hfr hlo hcs X hret hQ
  subst el eB eD eC eS
  have X : tw_X z cX10_followLeg "TreasureWalk$Trails" 8 := X
  show tw_Rf z r _ σ 0 [(0, .ref (tw_zB z + 33)), (1, .int x0), (2, .int x1), (3, .int x2)] []
  unfold tw_P_X10_followLeg
  refine r_iload_n X dX10_followLeg_0 rfl 1 rfl ?_
  refine r_bipush X dX10_followLeg_1 (v := (8 : Int32)) (by decide) ?_
  refine r_imul X dX10_followLeg_3 ?_
  refine r_iload_n X dX10_followLeg_4 rfl 2 rfl ?_
  refine r_iadd X dX10_followLeg_5 ?_
  refine r_istore X dX10_followLeg_6 (by decide) (LL := fun v1 => [(4, .int v1), (0, .ref (tw_zB z + 33)), (1, .int x0), (2, .int x1), (3, .int x2)]) (fun _ => rfl) (fun v1 => ?_)
  refine r_aload_n X dX10_followLeg_8 rfl 1 rfl ?_
  refine tw_g10_0 (k := 33) (v := .ref (tw_zB z + 1)) X dX10_followLeg_9 _ tw_w335 tw_kc33 rfl ?_
  refine tw_g2_9N (k := 1) (v := .ref (tw_zB z + 14)) X dX10_followLeg_12 _ tw_w239 tw_kc1 rfl ?_
  refine tw_g1_8N (k := 14) (v := .ref (tw_zB z + 29)) X dX10_followLeg_15 _ tw_w183 tw_kc14 rfl ?_
  refine r_iload X dX10_followLeg_18 0 rfl ?_
  refine r_bd (fun r2 hr2 => ?_)
  refine tw_c_X7_get X dX10_followLeg_20 _ tw_w555 tw_kc29 hr2 (tw_le hfr rfl) (tw_le hlo rfl) hcs (Nat.le_of_ble_eq_true rfl) trivial ?_
  refine r_istore X dX10_followLeg_23 (by decide) (LL := fun v3 => [(5, .int v3), (4, .int v1), (0, .ref (tw_zB z + 33)), (1, .int x0), (2, .int x1), (3, .int x2)]) (fun _ => rfl) (fun v3 => ?_)
  refine r_iload_n X dX10_followLeg_25 rfl 5 rfl ?_
  refine r_istore X dX10_followLeg_26 (by decide) (LL := fun v4 => [(6, .int v4), (5, .int v3), (4, .int v1), (0, .ref (tw_zB z + 33)), (1, .int x0), (2, .int x1), (3, .int x2)]) (fun _ => rfl) (fun v4 => ?_)
  refine r_iconst X dX10_followLeg_28 (v := (0 : Int32)) (by decide) ?_
  refine r_istore X dX10_followLeg_29 (by decide) (LL := fun v5 => [(7, .int v5), (6, .int v4), (5, .int v3), (4, .int v1), (0, .ref (tw_zB z + 33)), (1, .int x0), (2, .int x1), (3, .int x2)]) (fun _ => rfl) (fun v5 => ?_)
  refine tw_Rf.sub [0, 1, 2, 3, 4, 5, 6] rfl ?_
  refine r_lp (α := Int32 × Int32 × tw_Sg) (σJ := fun a6 => a6.2.2) (pcJ := 31) (LJ := fun a6 => [(7, .int a6.2.1), (6, .int a6.1), (5, .int v3), (4, .int v1), (0, .ref (tw_zB z + 33)), (1, .int x0), (2, .int x1)]) (stJ := fun a6 => []) (fun k7 hk7 a6 => ?_) n (v4, v5, σ)
  refine r_iload X dX10_followLeg_31 0 rfl ?_
  refine r_iload X dX10_followLeg_33 2 rfl ?_
  refine r_jn (α := Unit) (σJ := fun a8 => a6.2.2) (pcJ := 98) (LJ := fun a8 => []) (stJ := fun a8 => []) (ok := fun a8 => True) (fun a8 hoka8 => ?_) (fun j9 hj9 => ?_)
  ·
    exact r_vret X dX10_followLeg_98 hret hQ rfl
  refine r_icmp_gt X dX10_followLeg_35 (tgt := 98) (by decide) ?_ ?_
  ·
    exact tw_Rf.sub [] rfl (hj9 () trivial)
  ·
    refine r_iload X dX10_followLeg_38 1 rfl ?_
    refine r_if_eq X dX10_followLeg_40 (tgt := 98) (by decide) ?_ ?_
    ·
      exact tw_Rf.sub [] rfl (hj9 () trivial)
    ·
      refine r_aload_n X dX10_followLeg_43 rfl 4 rfl ?_
      refine r_iload X dX10_followLeg_44 3 rfl ?_
      refine r_iload X dX10_followLeg_46 1 rfl ?_
      refine r_iload X dX10_followLeg_48 0 rfl ?_
      refine r_bd (fun r10 hr10 => ?_)
      refine tw_c_X10_canEnd X dX10_followLeg_50 _ tw_w744  hr10 (tw_le hfr rfl) (tw_le hlo rfl) hcs (Nat.le_of_ble_eq_true rfl) trivial ?_
      refine r_jn (α := tw_Sg) (σJ := fun a11 => a11) (pcJ := 69) (LJ := fun a11 => [(7, .int a6.2.1), (6, .int a6.1), (5, .int v3), (4, .int v1), (0, .ref (tw_zB z + 33)), (1, .int x0), (2, .int x1)]) (stJ := fun a11 => []) (ok := fun a11 => True) (fun a11 hoka11 => ?_) (fun j12 hj12 => ?_)
      ·
        refine r_aload_n X dX10_followLeg_69 rfl 4 rfl ?_
        refine r_iload X dX10_followLeg_70 1 rfl ?_
        refine r_aload_n X dX10_followLeg_72 rfl 4 rfl ?_
        refine tw_g10_0 (k := 33) (v := .ref (tw_zB z + 1)) X dX10_followLeg_73 _ tw_w335 tw_kc33 rfl ?_
        refine tw_g2_9N (k := 1) (v := .ref (tw_zB z + 14)) X dX10_followLeg_76 _ tw_w239 tw_kc1 rfl ?_
        refine tw_g1_6N (k := 14) (v := .ref (tw_zB z + 25)) X dX10_followLeg_79 _ tw_w177 tw_kc14 rfl ?_
        refine r_iload X dX10_followLeg_82 3 rfl ?_
        refine r_bd (fun r13 hr13 => ?_)
        refine tw_c_X7_get X dX10_followLeg_84 _ tw_w555 tw_kc25 hr13 (tw_le hfr rfl) (tw_le hlo rfl) hcs (Nat.le_of_ble_eq_true rfl) trivial ?_
        refine r_bd (fun r14 hr14 => ?_)
        refine tw_c_X10_step X dX10_followLeg_87 _ tw_w748  hr14 (tw_le hfr rfl) (tw_le hlo rfl) hcs (Nat.le_of_ble_eq_true rfl) trivial ?_
        refine r_istore X dX10_followLeg_90 (by decide) (LL := fun v15 => [(6, .int v15), (7, .int a6.2.1), (5, .int v3), (4, .int v1), (0, .ref (tw_zB z + 33)), (1, .int x0), (2, .int x1)]) (fun _ => rfl) (fun v15 => ?_)
        refine r_iinc X dX10_followLeg_92 1 rfl (v := (1 : Int32)) (by decide) (by decide) (LL := fun v16 => [(7, .int v16), (6, .int v15), (5, .int v3), (4, .int v1), (0, .ref (tw_zB z + 33)), (1, .int x0), (2, .int x1)]) (fun _ => rfl) (fun v16 => ?_)
        refine r_goto X dX10_followLeg_95 (tgt := 31) (by decide) ?_
        exact hk7 (v15, v16, a11)
      refine r_if_eq X dX10_followLeg_53 (tgt := 69) (by decide) ?_ ?_
      ·
        exact hj12 a6.2.2 trivial
      ·
        refine r_aload_n X dX10_followLeg_56 rfl 4 rfl ?_
        refine r_iload_n X dX10_followLeg_57 rfl 5 rfl ?_
        refine r_iload_n X dX10_followLeg_58 rfl 6 rfl ?_
        refine r_iconst X dX10_followLeg_59 (v := (1 : Int32)) (by decide) ?_
        refine r_iadd X dX10_followLeg_60 ?_
        refine r_bd (fun r17 hr17 => ?_)
        refine tw_c_X10_layer X dX10_followLeg_61 _ tw_w726  hr17 (tw_le hfr rfl) (tw_le hlo rfl) hcs (Nat.le_of_ble_eq_true rfl) trivial ?_
        refine r_ck (fun h18 => ?_)
        refine r_iload X dX10_followLeg_64 1 rfl ?_
        refine r_bd (fun r19 hr19 => ?_)
        refine tw_c_X0_add X dX10_followLeg_66 _ tw_w738 (of_decide_eq_true h18) hr19 (tw_le hfr rfl) (tw_le hlo rfl) hcs (Nat.le_of_ble_eq_true rfl) trivial ?_
        exact hj12 r19 trivial
theorem tw_c_X10_followLeg {ρ : Type} {z : tw_Z} {cc : ByteArray} {own : String} {nL pc : Nat} {σ : tw_Sg} {L : List (Nat × Value)} {st : List Value} {ix : Nat} {n : Nat} {x0 : Int32} {x1 : Int32} {x2 : Int32} (X : tw_X z cc own nL) (d : decode cc pc = .ok (.invokevirtual ix, 3)) (i : Nat) (hi : lw_tbl[i]? = some (.methodLink own ix yX10_followLeg))  {res : ρ} {E : Option ρ} {r : tw_Sg} (h : tw_P_X10_followLeg n x0 x1 x2 σ = some r) (h1 : 4 ≤ (tw_zR z).frames) (h2 : 97 ≤ (tw_zR z).locals) (hcs : tw_zcells z ≤ (tw_zR z).cells ∧ tw_zslots z ≤ (tw_zR z).slots) (hst : (st.map fun v => v.category).sum ≤ 8) (_ : True) (kk : tw_Rf z res E r (pc + 3) L (st)) : tw_Rf z res E σ pc L (.int x2 :: .int x1 :: .int x0 :: .ref (tw_zB z + 33) :: st) := r_callV (As := [.int x0, .int x1, .int x2]) X d (tw_m_X10_followLeg  h) tw_y_X10_followLeg tw_v_X10_followLeg i hi rfl (tw_kd_lt tw_kc33 (by decide)) (tw_E10 tw_kc33) rfl ⟨rfl, rfl, h1, h2⟩ hcs hst rfl kk
def tw_P_X10_follow (n : Nat) (x0 : Int32) (σ : tw_Sg) : Option (tw_Sg) :=
tw_lt (0 : Int32) (fun (v1 : Int32) =>
tw_lp (fun (k3 : (Int32 × tw_Sg) → Option (tw_Sg)) (a2 : Int32 × tw_Sg) =>
tw_bd (tw_P_X7_get 17 x0 a2.2) (fun r4 =>
if r4 ≤ a2.1 then (tw_lt (0 : Int32) (fun (v5 : Int32) =>
tw_lp (fun (k7 : (Int32 × tw_Sg) → Option (tw_Sg)) (a6 : Int32 × tw_Sg) =>
tw_bd (tw_P_X7_get 21 x0 a6.2) (fun r8 =>
if r8 ≤ a6.1 then (some a6.2)
else (tw_lt (0 : Int32) (fun (v9 : Int32) =>
tw_lp (fun (k11 : (Int32 × Int32 × tw_Sg) → Option (tw_Sg)) (a10 : Int32 × Int32 × tw_Sg) =>
if (704 : Int32) ≤ a10.2.1 then (tw_lt (a10.1 + (1 : Int32)) (fun (v12 : Int32) =>
k7 (v12, a10.2.2)))
else (tw_bd (tw_P_X10_layer x0 a10.1 a10.2.2) (fun r13 =>
tw_ck (decide (tw_kd r13 = 0)) (
tw_bd (tw_P_X0_has r13 a10.2.1 a10.2.2) (fun r15 =>
tw_jn (fun (a16 : tw_Sg) =>
tw_lt (a10.2.1 + (1 : Int32)) (fun (v18 : Int32) =>
k11 (a10.1, v18, a16))) (fun (j17 : (tw_Sg) → Option (tw_Sg)) =>
if r15 = 0 then (j17 a10.2.2)
else (tw_bd (tw_P_X10_followLeg n x0 a10.1 a10.2.1 a10.2.2) (fun r19 =>
j17 r19)))))))) n (a6.1, v9, a6.2))))) n (v5, a2.2)))
else (tw_bd (tw_P_X10_layer x0 (0 : Int32) a2.2) (fun r20 =>
tw_ck (decide (tw_kd r20 = 0)) (
tw_bd (tw_P_X10_startSpot x0 a2.1 a2.2) (fun r22 =>
tw_bd (tw_P_X0_add r20 r22 a2.2) (fun r23 =>
tw_lt (a2.1 + (1 : Int32)) (fun (v24 : Int32) =>
k3 (v24, r23))))))))) n (v1, σ))
theorem tw_y_X10_follow : tw_My yX10_follow cX10_follow 4 none 1 := ⟨List.mem_of_getElem? tw_w725, List.mem_of_getElem? tw_w94, by decide +kernel, by decide +kernel, by decide +kernel⟩
theorem tw_v_X10_follow : tw_Mv yX10_follow "TreasureWalk$Trails" := ⟨List.mem_of_getElem? tw_w724, List.mem_of_getElem? tw_w6, rfl⟩
set_option maxRecDepth 100000 in
set_option maxHeartbeats 4000000 in
theorem tw_m_X10_follow {l : Launch} {B : Nat} {D : va_G} {C : Nat → ClassId} {S : Nat → Nat} {n : Nat} {x0 : Int32} {σ : tw_Sg}  {r : tw_Sg} (h : tw_P_X10_follow n x0 σ = some r) : tw_Met l B D C S yX10_follow cX10_follow 4 none ({ frames := 4, cells := 0, slots := 0, locals := 97 } : Room) [.ref (B + 33), .int x0] σ (none) r := by
  refine tw_metOfP (tw_P_X10_follow n x0 σ) r h (fun r => (none, r)) (by decide +kernel) (Nat.le_of_ble_eq_true rfl) ⟨rfl, rfl⟩ ?_
  intro z el eB eD eC eS hfr hlo hcs X hret hQ
  subst el eB eD eC eS
  have X : tw_X z cX10_follow "TreasureWalk$Trails" 4 := X
  show tw_Rf z r _ σ 0 [(0, .ref (tw_zB z + 33)), (1, .int x0)] []
  unfold tw_P_X10_follow
  refine r_iconst X dX10_follow_0 (v := (0 : Int32)) (by decide) ?_
  refine r_istore_n X dX10_follow_1 rfl (by decide) (LL := fun v1 => [(2, .int v1), (0, .ref (tw_zB z + 33)), (1, .int x0)]) (fun _ => rfl) (fun v1 => ?_)
  refine r_lp (α := Int32 × tw_Sg) (σJ := fun a2 => a2.2) (pcJ := 2) (LJ := fun a2 => [(2, .int a2.1), (0, .ref (tw_zB z + 33)), (1, .int x0)]) (stJ := fun a2 => []) (fun k3 hk3 a2 => ?_) n (v1, σ)
  refine r_iload_n X dX10_follow_2 rfl 0 rfl ?_
  refine r_aload_n X dX10_follow_3 rfl 1 rfl ?_
  refine tw_g10_0 (k := 33) (v := .ref (tw_zB z + 1)) X dX10_follow_4 _ tw_w335 tw_kc33 rfl ?_
  refine tw_g2_9N (k := 1) (v := .ref (tw_zB z + 14)) X dX10_follow_7 _ tw_w239 tw_kc1 rfl ?_
  refine tw_g1_2N (k := 14) (v := .ref (tw_zB z + 17)) X dX10_follow_10 _ tw_w167 tw_kc14 rfl ?_
  refine r_iload_n X dX10_follow_13 rfl 2 rfl ?_
  refine r_bd (fun r4 hr4 => ?_)
  refine tw_c_X7_get X dX10_follow_14 _ tw_w555 tw_kc17 hr4 (tw_le hfr rfl) (tw_le hlo rfl) hcs (Nat.le_of_ble_eq_true rfl) trivial ?_
  refine r_icmp_ge X dX10_follow_17 (tgt := 41) (by decide) ?_ ?_
  ·
    refine r_iconst X dX10_follow_41 (v := (0 : Int32)) (by decide) ?_
    refine r_istore_n X dX10_follow_42 rfl (by decide) (LL := fun v5 => [(2, .int v5), (0, .ref (tw_zB z + 33)), (1, .int x0)]) (fun _ => rfl) (fun v5 => ?_)
    refine r_lp (α := Int32 × tw_Sg) (σJ := fun a6 => a6.2) (pcJ := 43) (LJ := fun a6 => [(2, .int a6.1), (0, .ref (tw_zB z + 33)), (1, .int x0)]) (stJ := fun a6 => []) (fun k7 hk7 a6 => ?_) n (v5, a2.2)
    refine r_iload_n X dX10_follow_43 rfl 0 rfl ?_
    refine r_aload_n X dX10_follow_44 rfl 1 rfl ?_
    refine tw_g10_0 (k := 33) (v := .ref (tw_zB z + 1)) X dX10_follow_45 _ tw_w335 tw_kc33 rfl ?_
    refine tw_g2_9N (k := 1) (v := .ref (tw_zB z + 14)) X dX10_follow_48 _ tw_w239 tw_kc1 rfl ?_
    refine tw_g1_4N (k := 14) (v := .ref (tw_zB z + 21)) X dX10_follow_51 _ tw_w170 tw_kc14 rfl ?_
    refine r_iload_n X dX10_follow_54 rfl 2 rfl ?_
    refine r_bd (fun r8 hr8 => ?_)
    refine tw_c_X7_get X dX10_follow_55 _ tw_w555 tw_kc21 hr8 (tw_le hfr rfl) (tw_le hlo rfl) hcs (Nat.le_of_ble_eq_true rfl) trivial ?_
    refine r_icmp_ge X dX10_follow_58 (tgt := 102) (by decide) ?_ ?_
    ·
      exact r_vret X dX10_follow_102 hret hQ rfl
    ·
      refine r_iconst X dX10_follow_61 (v := (0 : Int32)) (by decide) ?_
      refine r_istore_n X dX10_follow_62 rfl (by decide) (LL := fun v9 => [(3, .int v9), (2, .int a6.1), (0, .ref (tw_zB z + 33)), (1, .int x0)]) (fun _ => rfl) (fun v9 => ?_)
      refine r_lp (α := Int32 × Int32 × tw_Sg) (σJ := fun a10 => a10.2.2) (pcJ := 63) (LJ := fun a10 => [(3, .int a10.2.1), (2, .int a10.1), (0, .ref (tw_zB z + 33)), (1, .int x0)]) (stJ := fun a10 => []) (fun k11 hk11 a10 => ?_) n (a6.1, v9, a6.2)
      refine r_iload_n X dX10_follow_63 rfl 0 rfl ?_
      refine r_sipush X dX10_follow_64 (v := (704 : Int32)) (by decide) ?_
      refine r_icmp_ge X dX10_follow_67 (tgt := 96) (by decide) ?_ ?_
      ·
        refine r_iinc X dX10_follow_96 1 rfl (v := (1 : Int32)) (by decide) (by decide) (LL := fun v12 => [(2, .int v12), (3, .int a10.2.1), (0, .ref (tw_zB z + 33)), (1, .int x0)]) (fun _ => rfl) (fun v12 => ?_)
        refine r_goto X dX10_follow_99 (tgt := 43) (by decide) ?_
        exact tw_Rf.sub [0, 2, 3] rfl (hk7 (v12, a10.2.2))
      ·
        refine r_aload_n X dX10_follow_70 rfl 2 rfl ?_
        refine r_iload_n X dX10_follow_71 rfl 3 rfl ?_
        refine r_iload_n X dX10_follow_72 rfl 1 rfl ?_
        refine r_bd (fun r13 hr13 => ?_)
        refine tw_c_X10_layer X dX10_follow_73 _ tw_w726  hr13 (tw_le hfr rfl) (tw_le hlo rfl) hcs (Nat.le_of_ble_eq_true rfl) trivial ?_
        refine r_ck (fun h14 => ?_)
        refine r_iload_n X dX10_follow_76 rfl 0 rfl ?_
        refine r_bd (fun r15 hr15 => ?_)
        refine tw_c_X0_has X dX10_follow_77 _ tw_w739 (of_decide_eq_true h14) hr15 (tw_le hfr rfl) (tw_le hlo rfl) hcs (Nat.le_of_ble_eq_true rfl) trivial ?_
        refine r_jn (α := tw_Sg) (σJ := fun a16 => a16) (pcJ := 90) (LJ := fun a16 => [(3, .int a10.2.1), (2, .int a10.1), (0, .ref (tw_zB z + 33)), (1, .int x0)]) (stJ := fun a16 => []) (ok := fun a16 => True) (fun a16 hoka16 => ?_) (fun j17 hj17 => ?_)
        ·
          refine r_iinc X dX10_follow_90 0 rfl (v := (1 : Int32)) (by decide) (by decide) (LL := fun v18 => [(3, .int v18), (2, .int a10.1), (0, .ref (tw_zB z + 33)), (1, .int x0)]) (fun _ => rfl) (fun v18 => ?_)
          refine r_goto X dX10_follow_93 (tgt := 63) (by decide) ?_
          exact hk11 (a10.1, v18, a16)
        refine r_if_eq X dX10_follow_80 (tgt := 90) (by decide) ?_ ?_
        ·
          exact hj17 a10.2.2 trivial
        ·
          refine r_aload_n X dX10_follow_83 rfl 2 rfl ?_
          refine r_iload_n X dX10_follow_84 rfl 3 rfl ?_
          refine r_iload_n X dX10_follow_85 rfl 1 rfl ?_
          refine r_iload_n X dX10_follow_86 rfl 0 rfl ?_
          refine r_bd (fun r19 hr19 => ?_)
          refine tw_c_X10_followLeg X dX10_follow_87 _ tw_w740  hr19 (tw_le hfr rfl) (tw_le hlo rfl) hcs (Nat.le_of_ble_eq_true rfl) trivial ?_
          exact hj17 r19 trivial
  ·
    refine r_aload_n X dX10_follow_20 rfl 1 rfl ?_
    refine r_iload_n X dX10_follow_21 rfl 2 rfl ?_
    refine r_iconst X dX10_follow_22 (v := (0 : Int32)) (by decide) ?_
    refine r_bd (fun r20 hr20 => ?_)
    refine tw_c_X10_layer X dX10_follow_23 _ tw_w726  hr20 (tw_le hfr rfl) (tw_le hlo rfl) hcs (Nat.le_of_ble_eq_true rfl) trivial ?_
    refine r_ck (fun h21 => ?_)
    refine r_aload_n X dX10_follow_26 rfl 1 rfl ?_
    refine r_iload_n X dX10_follow_27 rfl 2 rfl ?_
    refine r_iload_n X dX10_follow_28 rfl 0 rfl ?_
    refine r_bd (fun r22 hr22 => ?_)
    refine tw_c_X10_startSpot X dX10_follow_29 _ tw_w730  hr22 (tw_le hfr rfl) (tw_le hlo rfl) hcs (Nat.le_of_ble_eq_true rfl) trivial ?_
    refine r_bd (fun r23 hr23 => ?_)
    refine tw_c_X0_add X dX10_follow_32 _ tw_w738 (of_decide_eq_true h21) hr23 (tw_le hfr rfl) (tw_le hlo rfl) hcs (Nat.le_of_ble_eq_true rfl) trivial ?_
    refine r_iinc X dX10_follow_35 0 rfl (v := (1 : Int32)) (by decide) (by decide) (LL := fun v24 => [(2, .int v24), (0, .ref (tw_zB z + 33)), (1, .int x0)]) (fun _ => rfl) (fun v24 => ?_)
    refine r_goto X dX10_follow_38 (tgt := 2) (by decide) ?_
    exact hk3 (v24, r23)
theorem tw_c_X10_follow {ρ : Type} {z : tw_Z} {cc : ByteArray} {own : String} {nL pc : Nat} {σ : tw_Sg} {L : List (Nat × Value)} {st : List Value} {ix : Nat} {n : Nat} {x0 : Int32} (X : tw_X z cc own nL) (d : decode cc pc = .ok (.invokevirtual ix, 3)) (i : Nat) (hi : lw_tbl[i]? = some (.methodLink own ix yX10_follow))  {res : ρ} {E : Option ρ} {r : tw_Sg} (h : tw_P_X10_follow n x0 σ = some r) (h1 : 5 ≤ (tw_zR z).frames) (h2 : 120 ≤ (tw_zR z).locals) (hcs : tw_zcells z ≤ (tw_zR z).cells ∧ tw_zslots z ≤ (tw_zR z).slots) (hst : (st.map fun v => v.category).sum ≤ 8) (_ : True) (kk : tw_Rf z res E r (pc + 3) L (st)) : tw_Rf z res E σ pc L (.int x0 :: .ref (tw_zB z + 33) :: st) := r_callV (As := [.int x0]) X d (tw_m_X10_follow  h) tw_y_X10_follow tw_v_X10_follow i hi rfl (tw_kd_lt tw_kc33 (by decide)) (tw_E10 tw_kc33) rfl ⟨rfl, rfl, h1, h2⟩ hcs hst rfl kk
def tw_P_X10_renew (n : Nat)  (σ : tw_Sg) : Option (tw_Sg) :=
tw_bd (tw_P_X7_fill n 34 (0 : Int32) σ) (fun r1 =>
tw_lt (0 : Int32) (fun (v2 : Int32) =>
tw_lp (fun (k4 : (Int32 × tw_Sg) → Option (tw_Sg)) (a3 : Int32 × tw_Sg) =>
if (a3.2 1 5) ≤ a3.1 then (tw_bd (tw_P_X5_clear n 36 a3.2) (fun r5 =>
tw_lt (0 : Int32) (fun (v6 : Int32) =>
tw_lp (fun (k8 : (Int32 × tw_Sg) → Option (tw_Sg)) (a7 : Int32 × tw_Sg) =>
if (a7.2 14 0) ≤ a7.1 then (some a7.2)
else (tw_bd (tw_P_X10_follow n a7.1 a7.2) (fun r9 =>
tw_lt (a7.1 + (1 : Int32)) (fun (v10 : Int32) =>
k8 (v10, r9))))) n (v6, r5))))
else (tw_bd (tw_P_X10_twist n a3.1 a3.2) (fun r11 =>
tw_lt (a3.1 + (1 : Int32)) (fun (v12 : Int32) =>
k4 (v12, r11))))) n (v2, r1)))
theorem tw_y_X10_renew : tw_My yX10_renew cX10_renew 2 none 0 := ⟨List.mem_of_getElem? tw_w704, List.mem_of_getElem? tw_w94, by decide +kernel, by decide +kernel, by decide +kernel⟩
theorem tw_v_X10_renew : tw_Mv yX10_renew "TreasureWalk$Trails" := ⟨List.mem_of_getElem? tw_w702, List.mem_of_getElem? tw_w703, rfl⟩
set_option maxRecDepth 100000 in
set_option maxHeartbeats 4000000 in
theorem tw_m_X10_renew {l : Launch} {B : Nat} {D : va_G} {C : Nat → ClassId} {S : Nat → Nat} {n : Nat}  {σ : tw_Sg}  {r : tw_Sg} (h : tw_P_X10_renew n σ = some r) : tw_Met l B D C S yX10_renew cX10_renew 2 none ({ frames := 5, cells := 0, slots := 0, locals := 120 } : Room) [.ref (B + 33)] σ (none) r := by
  refine tw_metOfP (tw_P_X10_renew n σ) r h (fun r => (none, r)) (by decide +kernel) (Nat.le_of_ble_eq_true rfl) ⟨rfl, rfl⟩ ?_
  intro z el eB eD eC eS hfr hlo hcs X hret hQ
  subst el eB eD eC eS
  have X : tw_X z cX10_renew "TreasureWalk$Trails" 2 := X
  show tw_Rf z r _ σ 0 [(0, .ref (tw_zB z + 33))] []
  unfold tw_P_X10_renew
  refine r_aload_n X dX10_renew_0 rfl 0 rfl ?_
  refine tw_g10_1 (k := 33) (v := .ref (tw_zB z + 34)) X dX10_renew_1 _ tw_w336 tw_kc33 rfl ?_
  refine r_iconst X dX10_renew_4 (v := (0 : Int32)) (by decide) ?_
  refine r_bd (fun r1 hr1 => ?_)
  refine tw_c_X7_fill X dX10_renew_5 _ tw_w705 tw_kc34 hr1 (tw_le hfr rfl) (tw_le hlo rfl) hcs (Nat.le_of_ble_eq_true rfl) trivial ?_
  refine r_iconst X dX10_renew_8 (v := (0 : Int32)) (by decide) ?_
  refine r_istore_n X dX10_renew_9 rfl (by decide) (LL := fun v2 => [(1, .int v2), (0, .ref (tw_zB z + 33))]) (fun _ => rfl) (fun v2 => ?_)
  refine r_lp (α := Int32 × tw_Sg) (σJ := fun a3 => a3.2) (pcJ := 10) (LJ := fun a3 => [(1, .int a3.1), (0, .ref (tw_zB z + 33))]) (stJ := fun a3 => []) (fun k4 hk4 a3 => ?_) n (v2, r1)
  refine r_iload_n X dX10_renew_10 rfl 0 rfl ?_
  refine r_aload_n X dX10_renew_11 rfl 1 rfl ?_
  refine tw_g10_0 (k := 33) (v := .ref (tw_zB z + 1)) X dX10_renew_12 _ tw_w335 tw_kc33 rfl ?_
  refine tw_g2_5N (k := 1) (v := .int (a3.2 1 5)) X dX10_renew_15 _ tw_w226 tw_kc1 rfl ?_
  refine r_icmp_ge X dX10_renew_18 (tgt := 32) (by decide) ?_ ?_
  ·
    refine r_aload_n X dX10_renew_32 rfl 1 rfl ?_
    refine tw_g10_2 (k := 33) (v := .ref (tw_zB z + 36)) X dX10_renew_33 _ tw_w337 tw_kc33 rfl ?_
    refine r_bd (fun r5 hr5 => ?_)
    refine tw_c_X5_clear X dX10_renew_36 _ tw_w716 tw_kc36 hr5 (tw_le hfr rfl) (tw_le hlo rfl) hcs (Nat.le_of_ble_eq_true rfl) trivial ?_
    refine r_iconst X dX10_renew_39 (v := (0 : Int32)) (by decide) ?_
    refine r_istore_n X dX10_renew_40 rfl (by decide) (LL := fun v6 => [(1, .int v6), (0, .ref (tw_zB z + 33))]) (fun _ => rfl) (fun v6 => ?_)
    refine r_lp (α := Int32 × tw_Sg) (σJ := fun a7 => a7.2) (pcJ := 41) (LJ := fun a7 => [(1, .int a7.1), (0, .ref (tw_zB z + 33))]) (stJ := fun a7 => []) (fun k8 hk8 a7 => ?_) n (v6, r5)
    refine r_iload_n X dX10_renew_41 rfl 0 rfl ?_
    refine r_aload_n X dX10_renew_42 rfl 1 rfl ?_
    refine tw_g10_0 (k := 33) (v := .ref (tw_zB z + 1)) X dX10_renew_43 _ tw_w335 tw_kc33 rfl ?_
    refine tw_g2_9N (k := 1) (v := .ref (tw_zB z + 14)) X dX10_renew_46 _ tw_w239 tw_kc1 rfl ?_
    refine tw_g1_0N (k := 14) (v := .int (a7.2 14 0)) X dX10_renew_49 _ tw_w160 tw_kc14 rfl ?_
    refine r_icmp_ge X dX10_renew_52 (tgt := 66) (by decide) ?_ ?_
    ·
      exact r_vret X dX10_renew_66 hret hQ rfl
    ·
      refine r_aload_n X dX10_renew_55 rfl 1 rfl ?_
      refine r_iload_n X dX10_renew_56 rfl 0 rfl ?_
      refine r_bd (fun r9 hr9 => ?_)
      refine tw_c_X10_follow X dX10_renew_57 _ tw_w722  hr9 (tw_le hfr rfl) (tw_le hlo rfl) hcs (Nat.le_of_ble_eq_true rfl) trivial ?_
      refine r_iinc X dX10_renew_60 0 rfl (v := (1 : Int32)) (by decide) (by decide) (LL := fun v10 => [(1, .int v10), (0, .ref (tw_zB z + 33))]) (fun _ => rfl) (fun v10 => ?_)
      refine r_goto X dX10_renew_63 (tgt := 41) (by decide) ?_
      exact hk8 (v10, r9)
  ·
    refine r_aload_n X dX10_renew_21 rfl 1 rfl ?_
    refine r_iload_n X dX10_renew_22 rfl 0 rfl ?_
    refine r_bd (fun r11 hr11 => ?_)
    refine tw_c_X10_twist X dX10_renew_23 _ tw_w706  hr11 (tw_le hfr rfl) (tw_le hlo rfl) hcs (Nat.le_of_ble_eq_true rfl) trivial ?_
    refine r_iinc X dX10_renew_26 0 rfl (v := (1 : Int32)) (by decide) (by decide) (LL := fun v12 => [(1, .int v12), (0, .ref (tw_zB z + 33))]) (fun _ => rfl) (fun v12 => ?_)
    refine r_goto X dX10_renew_29 (tgt := 10) (by decide) ?_
    exact hk4 (v12, r11)
theorem tw_c_X10_renew {ρ : Type} {z : tw_Z} {cc : ByteArray} {own : String} {nL pc : Nat} {σ : tw_Sg} {L : List (Nat × Value)} {st : List Value} {ix : Nat} {n : Nat}  (X : tw_X z cc own nL) (d : decode cc pc = .ok (.invokevirtual ix, 3)) (i : Nat) (hi : lw_tbl[i]? = some (.methodLink own ix yX10_renew))  {res : ρ} {E : Option ρ} {r : tw_Sg} (h : tw_P_X10_renew n σ = some r) (h1 : 6 ≤ (tw_zR z).frames) (h2 : 141 ≤ (tw_zR z).locals) (hcs : tw_zcells z ≤ (tw_zR z).cells ∧ tw_zslots z ≤ (tw_zR z).slots) (hst : (st.map fun v => v.category).sum ≤ 8) (_ : True) (kk : tw_Rf z res E r (pc + 3) L (st)) : tw_Rf z res E σ pc L (.ref (tw_zB z + 33) :: st) := r_callV (As := []) X d (tw_m_X10_renew  h) tw_y_X10_renew tw_v_X10_renew i hi rfl (tw_kd_lt tw_kc33 (by decide)) (tw_E10 tw_kc33) rfl ⟨rfl, rfl, h1, h2⟩ hcs hst rfl kk
def tw_P_X10_fewestPaces (n : Nat) (x0 : Int32) (x1 : Int32) (x2 : Int32) (σ : tw_Sg) : Option (Int32) :=
tw_lt ((x0 * (8 : Int32)) + x1) (fun (v1 : Int32) =>
tw_bd (tw_P_X7_get 29 v1 σ) (fun r2 =>
tw_lt r2 (fun (v3 : Int32) =>
tw_lt x2 (fun (v4 : Int32) =>
tw_lt (0 : Int32) (fun (v5 : Int32) =>
tw_lp (fun (k7 : (Int32 × Int32) → Option (Int32)) (a6 : Int32 × Int32) =>
tw_jn (fun (a8 : Unit) =>
some (-1 : Int32)) (fun (j9 : (Unit) → Option (Int32)) =>
if v3 < a6.2 then (j9 ())
else (if a6.1 = 0 then (j9 ())
else (tw_bd (tw_P_X5_at 112 (x1 + (1 : Int32)) σ) (fun r10 =>
tw_ck (decide (tw_kd r10 = 0)) (
tw_bd (tw_P_X0_has r10 a6.1 σ) (fun r12 =>
tw_jn (fun (a13 : Unit) =>
tw_bd (tw_P_X7_get 25 v1 σ) (fun r15 =>
tw_bd (tw_P_X10_step a6.1 r15 σ) (fun r16 =>
tw_lt r16 (fun (v17 : Int32) =>
tw_lt (a6.2 + (1 : Int32)) (fun (v18 : Int32) =>
k7 (v17, v18)))))) (fun (j14 : (Unit) → Option (Int32)) =>
if r12 = 0 then (j14 ())
else (tw_bd (tw_P_X10_canEnd v1 a6.1 a6.2 σ) (fun r19 =>
if r19 = 0 then (j14 ())
else (some a6.2))))))))))) n (v4, v5))))))
theorem tw_y_X10_fewestPaces : tw_My yX10_fewestPaces cX10_fewestPaces 8 (some .int) 3 := ⟨List.mem_of_getElem? tw_w1165, List.mem_of_getElem? tw_w94, by decide +kernel, by decide +kernel, by decide +kernel⟩
theorem tw_v_X10_fewestPaces : tw_Mv yX10_fewestPaces "TreasureWalk$Trails" := ⟨List.mem_of_getElem? tw_w1164, List.mem_of_getElem? tw_w34, rfl⟩
set_option maxRecDepth 100000 in
set_option maxHeartbeats 4000000 in
theorem tw_m_X10_fewestPaces {l : Launch} {B : Nat} {D : va_G} {C : Nat → ClassId} {S : Nat → Nat} {n : Nat} {x0 : Int32} {x1 : Int32} {x2 : Int32} {σ : tw_Sg}  {r : Int32} (h : tw_P_X10_fewestPaces n x0 x1 x2 σ = some r) : tw_Met l B D C S yX10_fewestPaces cX10_fewestPaces 8 (some .int) ({ frames := 3, cells := 0, slots := 0, locals := 70 } : Room) [.ref (B + 33), .int x0, .int x1, .int x2] σ (some (.int r)) σ := by
  refine tw_metOfP (tw_P_X10_fewestPaces n x0 x1 x2 σ) r h (fun r => (some (.int r), σ)) (by decide +kernel) (Nat.le_of_ble_eq_true rfl) ⟨rfl, rfl⟩ ?_
  intro z el eB eD eC eS hfr hlo hcs X hret hQ
  subst el eB eD eC eS
  have X : tw_X z cX10_fewestPaces "TreasureWalk$Trails" 8 := X
  show tw_Rf z r _ σ 0 [(0, .ref (tw_zB z + 33)), (1, .int x0), (2, .int x1), (3, .int x2)] []
  unfold tw_P_X10_fewestPaces
  refine r_iload_n X dX10_fewestPaces_0 rfl 1 rfl ?_
  refine r_bipush X dX10_fewestPaces_1 (v := (8 : Int32)) (by decide) ?_
  refine r_imul X dX10_fewestPaces_3 ?_
  refine r_iload_n X dX10_fewestPaces_4 rfl 2 rfl ?_
  refine r_iadd X dX10_fewestPaces_5 ?_
  refine r_istore X dX10_fewestPaces_6 (by decide) (LL := fun v1 => [(4, .int v1), (0, .ref (tw_zB z + 33)), (1, .int x0), (2, .int x1), (3, .int x2)]) (fun _ => rfl) (fun v1 => ?_)
  refine r_aload_n X dX10_fewestPaces_8 rfl 1 rfl ?_
  refine tw_g10_0 (k := 33) (v := .ref (tw_zB z + 1)) X dX10_fewestPaces_9 _ tw_w335 tw_kc33 rfl ?_
  refine tw_g2_9N (k := 1) (v := .ref (tw_zB z + 14)) X dX10_fewestPaces_12 _ tw_w239 tw_kc1 rfl ?_
  refine tw_g1_8N (k := 14) (v := .ref (tw_zB z + 29)) X dX10_fewestPaces_15 _ tw_w183 tw_kc14 rfl ?_
  refine r_iload X dX10_fewestPaces_18 0 rfl ?_
  refine r_bd (fun r2 hr2 => ?_)
  refine tw_c_X7_get X dX10_fewestPaces_20 _ tw_w555 tw_kc29 hr2 (tw_le hfr rfl) (tw_le hlo rfl) hcs (Nat.le_of_ble_eq_true rfl) trivial ?_
  refine r_istore X dX10_fewestPaces_23 (by decide) (LL := fun v3 => [(5, .int v3), (4, .int v1), (0, .ref (tw_zB z + 33)), (1, .int x0), (2, .int x1), (3, .int x2)]) (fun _ => rfl) (fun v3 => ?_)
  refine r_iload_n X dX10_fewestPaces_25 rfl 5 rfl ?_
  refine r_istore X dX10_fewestPaces_26 (by decide) (LL := fun v4 => [(6, .int v4), (5, .int v3), (4, .int v1), (0, .ref (tw_zB z + 33)), (1, .int x0), (2, .int x1), (3, .int x2)]) (fun _ => rfl) (fun v4 => ?_)
  refine r_iconst X dX10_fewestPaces_28 (v := (0 : Int32)) (by decide) ?_
  refine r_istore X dX10_fewestPaces_29 (by decide) (LL := fun v5 => [(7, .int v5), (6, .int v4), (5, .int v3), (4, .int v1), (0, .ref (tw_zB z + 33)), (1, .int x0), (2, .int x1), (3, .int x2)]) (fun _ => rfl) (fun v5 => ?_)
  refine tw_Rf.sub [0, 1, 2, 3, 4, 6] rfl ?_
  refine r_lp (α := Int32 × Int32) (σJ := fun a6 => σ) (pcJ := 31) (LJ := fun a6 => [(7, .int a6.2), (6, .int a6.1), (5, .int v3), (4, .int v1), (0, .ref (tw_zB z + 33)), (2, .int x1)]) (stJ := fun a6 => []) (fun k7 hk7 a6 => ?_) n (v4, v5)
  refine r_iload X dX10_fewestPaces_31 0 rfl ?_
  refine r_iload X dX10_fewestPaces_33 2 rfl ?_
  refine r_jn (α := Unit) (σJ := fun a8 => σ) (pcJ := 106) (LJ := fun a8 => []) (stJ := fun a8 => []) (ok := fun a8 => True) (fun a8 hoka8 => ?_) (fun j9 hj9 => ?_)
  ·
    refine r_iconst X dX10_fewestPaces_106 (v := (-1 : Int32)) (by decide) ?_
    exact r_iret X dX10_fewestPaces_107 hret hQ rfl
  refine r_icmp_gt X dX10_fewestPaces_35 (tgt := 106) (by decide) ?_ ?_
  ·
    exact tw_Rf.sub [] rfl (hj9 () trivial)
  ·
    refine r_iload X dX10_fewestPaces_38 1 rfl ?_
    refine r_if_eq X dX10_fewestPaces_40 (tgt := 106) (by decide) ?_ ?_
    ·
      exact tw_Rf.sub [] rfl (hj9 () trivial)
    ·
      refine r_aload_n X dX10_fewestPaces_43 rfl 4 rfl ?_
      refine tw_g10_3 (k := 33) (v := .ref (tw_zB z + 112)) X dX10_fewestPaces_44 _ tw_w338 tw_kc33 rfl ?_
      refine r_iload_n X dX10_fewestPaces_47 rfl 5 rfl ?_
      refine r_iconst X dX10_fewestPaces_48 (v := (1 : Int32)) (by decide) ?_
      refine r_iadd X dX10_fewestPaces_49 ?_
      refine r_bd (fun r10 hr10 => ?_)
      refine tw_c_X5_at X dX10_fewestPaces_50 _ tw_w556 tw_kc112 hr10 (tw_le hfr rfl) (tw_le hlo rfl) hcs (Nat.le_of_ble_eq_true rfl) trivial ?_
      refine r_ck (fun h11 => ?_)
      refine r_iload X dX10_fewestPaces_53 1 rfl ?_
      refine r_bd (fun r12 hr12 => ?_)
      refine tw_c_X0_has X dX10_fewestPaces_55 _ tw_w739 (of_decide_eq_true h11) hr12 (tw_le hfr rfl) (tw_le hlo rfl) hcs (Nat.le_of_ble_eq_true rfl) trivial ?_
      refine r_jn (α := Unit) (σJ := fun a13 => σ) (pcJ := 77) (LJ := fun a13 => [(7, .int a6.2), (6, .int a6.1), (5, .int v3), (4, .int v1), (0, .ref (tw_zB z + 33)), (2, .int x1)]) (stJ := fun a13 => []) (ok := fun a13 => True) (fun a13 hoka13 => ?_) (fun j14 hj14 => ?_)
      ·
        refine r_aload_n X dX10_fewestPaces_77 rfl 4 rfl ?_
        refine r_iload X dX10_fewestPaces_78 1 rfl ?_
        refine r_aload_n X dX10_fewestPaces_80 rfl 4 rfl ?_
        refine tw_g10_0 (k := 33) (v := .ref (tw_zB z + 1)) X dX10_fewestPaces_81 _ tw_w335 tw_kc33 rfl ?_
        refine tw_g2_9N (k := 1) (v := .ref (tw_zB z + 14)) X dX10_fewestPaces_84 _ tw_w239 tw_kc1 rfl ?_
        refine tw_g1_6N (k := 14) (v := .ref (tw_zB z + 25)) X dX10_fewestPaces_87 _ tw_w177 tw_kc14 rfl ?_
        refine r_iload X dX10_fewestPaces_90 3 rfl ?_
        refine r_bd (fun r15 hr15 => ?_)
        refine tw_c_X7_get X dX10_fewestPaces_92 _ tw_w555 tw_kc25 hr15 (tw_le hfr rfl) (tw_le hlo rfl) hcs (Nat.le_of_ble_eq_true rfl) trivial ?_
        refine r_bd (fun r16 hr16 => ?_)
        refine tw_c_X10_step X dX10_fewestPaces_95 _ tw_w748  hr16 (tw_le hfr rfl) (tw_le hlo rfl) hcs (Nat.le_of_ble_eq_true rfl) trivial ?_
        refine r_istore X dX10_fewestPaces_98 (by decide) (LL := fun v17 => [(6, .int v17), (7, .int a6.2), (5, .int v3), (4, .int v1), (0, .ref (tw_zB z + 33)), (2, .int x1)]) (fun _ => rfl) (fun v17 => ?_)
        refine r_iinc X dX10_fewestPaces_100 1 rfl (v := (1 : Int32)) (by decide) (by decide) (LL := fun v18 => [(7, .int v18), (6, .int v17), (5, .int v3), (4, .int v1), (0, .ref (tw_zB z + 33)), (2, .int x1)]) (fun _ => rfl) (fun v18 => ?_)
        refine r_goto X dX10_fewestPaces_103 (tgt := 31) (by decide) ?_
        exact hk7 (v17, v18)
      refine r_if_eq X dX10_fewestPaces_58 (tgt := 77) (by decide) ?_ ?_
      ·
        exact hj14 () trivial
      ·
        refine r_aload_n X dX10_fewestPaces_61 rfl 4 rfl ?_
        refine r_iload X dX10_fewestPaces_62 3 rfl ?_
        refine r_iload X dX10_fewestPaces_64 1 rfl ?_
        refine r_iload X dX10_fewestPaces_66 0 rfl ?_
        refine r_bd (fun r19 hr19 => ?_)
        refine tw_c_X10_canEnd X dX10_fewestPaces_68 _ tw_w744  hr19 (tw_le hfr rfl) (tw_le hlo rfl) hcs (Nat.le_of_ble_eq_true rfl) trivial ?_
        refine r_if_eq X dX10_fewestPaces_71 (tgt := 77) (by decide) ?_ ?_
        ·
          exact hj14 () trivial
        ·
          refine r_iload X dX10_fewestPaces_74 0 rfl ?_
          exact r_iret X dX10_fewestPaces_76 hret hQ rfl
theorem tw_c_X10_fewestPaces {ρ : Type} {z : tw_Z} {cc : ByteArray} {own : String} {nL pc : Nat} {σ : tw_Sg} {L : List (Nat × Value)} {st : List Value} {ix : Nat} {n : Nat} {x0 : Int32} {x1 : Int32} {x2 : Int32} (X : tw_X z cc own nL) (d : decode cc pc = .ok (.invokevirtual ix, 3)) (i : Nat) (hi : lw_tbl[i]? = some (.methodLink own ix yX10_fewestPaces))  {res : ρ} {E : Option ρ} {r : Int32} (h : tw_P_X10_fewestPaces n x0 x1 x2 σ = some r) (h1 : 4 ≤ (tw_zR z).frames) (h2 : 97 ≤ (tw_zR z).locals) (hcs : tw_zcells z ≤ (tw_zR z).cells ∧ tw_zslots z ≤ (tw_zR z).slots) (hst : (st.map fun v => v.category).sum ≤ 8) (_ : True) (kk : tw_Rf z res E σ (pc + 3) L (.int r :: st)) : tw_Rf z res E σ pc L (.int x2 :: .int x1 :: .int x0 :: .ref (tw_zB z + 33) :: st) := r_callV (As := [.int x0, .int x1, .int x2]) X d (tw_m_X10_fewestPaces  h) tw_y_X10_fewestPaces tw_v_X10_fewestPaces i hi rfl (tw_kd_lt tw_kc33 (by decide)) (tw_E10 tw_kc33) rfl ⟨rfl, rfl, h1, h2⟩ hcs hst rfl kk
def tw_P_X10_findWays (n : Nat) (x0 : Int32) (x1 : Int32) (σ : tw_Sg) : Option (tw_Sg) :=
tw_bd (tw_P_X7_get 21 x0 σ) (fun r1 =>
tw_lt r1 (fun (v2 : Int32) =>
tw_bd (tw_P_X5_clear n 112 σ) (fun r3 =>
tw_bd (tw_P_X5_at 112 v2 r3) (fun r4 =>
tw_ck (decide (tw_kd r4 = 0)) (
tw_bd (tw_P_X0_add r4 x1 r3) (fun r6 =>
tw_lt (v2 - (1 : Int32)) (fun (v7 : Int32) =>
tw_lp (fun (k9 : (Int32 × tw_Sg) → Option (tw_Sg)) (a8 : Int32 × tw_Sg) =>
if a8.1 < 0 then (some a8.2)
else (tw_lt (0 : Int32) (fun (v10 : Int32) =>
tw_lp (fun (k12 : (Int32 × Int32 × tw_Sg) → Option (tw_Sg)) (a11 : Int32 × Int32 × tw_Sg) =>
if (704 : Int32) ≤ a11.2.1 then (tw_lt (a11.1 + (-1 : Int32)) (fun (v13 : Int32) =>
k9 (v13, a11.2.2)))
else (tw_bd (tw_P_X10_layer x0 a11.1 a11.2.2) (fun r14 =>
tw_ck (decide (tw_kd r14 = 0)) (
tw_bd (tw_P_X0_has r14 a11.2.1 a11.2.2) (fun r16 =>
tw_jn (fun (a17 : tw_Sg) =>
tw_lt (a11.2.1 + (1 : Int32)) (fun (v19 : Int32) =>
k12 (a11.1, v19, a17))) (fun (j18 : (tw_Sg) → Option (tw_Sg)) =>
if r16 = 0 then (j18 a11.2.2)
else (tw_bd (tw_P_X10_fewestPaces n x0 a11.1 a11.2.1 a11.2.2) (fun r20 =>
if r20 < 0 then (j18 a11.2.2)
else (tw_bd (tw_P_X5_at 112 a11.1 a11.2.2) (fun r21 =>
tw_ck (decide (tw_kd r21 = 0)) (
tw_bd (tw_P_X0_add r21 a11.2.1 a11.2.2) (fun r23 =>
j18 r23)))))))))))) n (a8.1, v10, a8.2)))) n (v7, r6))))))))
theorem tw_y_X10_findWays : tw_My yX10_findWays cX10_findWays 6 none 2 := ⟨List.mem_of_getElem? tw_w1161, List.mem_of_getElem? tw_w94, by decide +kernel, by decide +kernel, by decide +kernel⟩
theorem tw_v_X10_findWays : tw_Mv yX10_findWays "TreasureWalk$Trails" := ⟨List.mem_of_getElem? tw_w1160, List.mem_of_getElem? tw_w33, rfl⟩
set_option maxRecDepth 100000 in
set_option maxHeartbeats 4000000 in
theorem tw_m_X10_findWays {l : Launch} {B : Nat} {D : va_G} {C : Nat → ClassId} {S : Nat → Nat} {n : Nat} {x0 : Int32} {x1 : Int32} {σ : tw_Sg}  {r : tw_Sg} (h : tw_P_X10_findWays n x0 x1 σ = some r) : tw_Met l B D C S yX10_findWays cX10_findWays 6 none ({ frames := 4, cells := 0, slots := 0, locals := 97 } : Room) [.ref (B + 33), .int x0, .int x1] σ (none) r := by
  refine tw_metOfP (tw_P_X10_findWays n x0 x1 σ) r h (fun r => (none, r)) (by decide +kernel) (Nat.le_of_ble_eq_true rfl) ⟨rfl, rfl⟩ ?_
  intro z el eB eD eC eS hfr hlo hcs X hret hQ
  subst el eB eD eC eS
  have X : tw_X z cX10_findWays "TreasureWalk$Trails" 6 := X
  show tw_Rf z r _ σ 0 [(0, .ref (tw_zB z + 33)), (1, .int x0), (2, .int x1)] []
  unfold tw_P_X10_findWays
  refine r_aload_n X dX10_findWays_0 rfl 0 rfl ?_
  refine tw_g10_0 (k := 33) (v := .ref (tw_zB z + 1)) X dX10_findWays_1 _ tw_w335 tw_kc33 rfl ?_
  refine tw_g2_9N (k := 1) (v := .ref (tw_zB z + 14)) X dX10_findWays_4 _ tw_w239 tw_kc1 rfl ?_
  refine tw_g1_4N (k := 14) (v := .ref (tw_zB z + 21)) X dX10_findWays_7 _ tw_w170 tw_kc14 rfl ?_
  refine r_iload_n X dX10_findWays_10 rfl 1 rfl ?_
  refine r_bd (fun r1 hr1 => ?_)
  refine tw_c_X7_get X dX10_findWays_11 _ tw_w555 tw_kc21 hr1 (tw_le hfr rfl) (tw_le hlo rfl) hcs (Nat.le_of_ble_eq_true rfl) trivial ?_
  refine r_istore_n X dX10_findWays_14 rfl (by decide) (LL := fun v2 => [(3, .int v2), (0, .ref (tw_zB z + 33)), (1, .int x0), (2, .int x1)]) (fun _ => rfl) (fun v2 => ?_)
  refine r_aload_n X dX10_findWays_15 rfl 1 rfl ?_
  refine tw_g10_3 (k := 33) (v := .ref (tw_zB z + 112)) X dX10_findWays_16 _ tw_w338 tw_kc33 rfl ?_
  refine r_bd (fun r3 hr3 => ?_)
  refine tw_c_X5_clear X dX10_findWays_19 _ tw_w716 tw_kc112 hr3 (tw_le hfr rfl) (tw_le hlo rfl) hcs (Nat.le_of_ble_eq_true rfl) trivial ?_
  refine r_aload_n X dX10_findWays_22 rfl 1 rfl ?_
  refine tw_g10_3 (k := 33) (v := .ref (tw_zB z + 112)) X dX10_findWays_23 _ tw_w338 tw_kc33 rfl ?_
  refine r_iload_n X dX10_findWays_26 rfl 0 rfl ?_
  refine r_bd (fun r4 hr4 => ?_)
  refine tw_c_X5_at X dX10_findWays_27 _ tw_w556 tw_kc112 hr4 (tw_le hfr rfl) (tw_le hlo rfl) hcs (Nat.le_of_ble_eq_true rfl) trivial ?_
  refine r_ck (fun h5 => ?_)
  refine r_iload_n X dX10_findWays_30 rfl 3 rfl ?_
  refine r_bd (fun r6 hr6 => ?_)
  refine tw_c_X0_add X dX10_findWays_31 _ tw_w738 (of_decide_eq_true h5) hr6 (tw_le hfr rfl) (tw_le hlo rfl) hcs (Nat.le_of_ble_eq_true rfl) trivial ?_
  refine r_iload_n X dX10_findWays_34 rfl 0 rfl ?_
  refine r_iconst X dX10_findWays_35 (v := (1 : Int32)) (by decide) ?_
  refine r_isub X dX10_findWays_36 ?_
  refine r_istore X dX10_findWays_37 (by decide) (LL := fun v7 => [(4, .int v7), (3, .int v2), (0, .ref (tw_zB z + 33)), (1, .int x0), (2, .int x1)]) (fun _ => rfl) (fun v7 => ?_)
  refine tw_Rf.sub [0, 2, 3] rfl ?_
  refine r_lp (α := Int32 × tw_Sg) (σJ := fun a8 => a8.2) (pcJ := 39) (LJ := fun a8 => [(4, .int a8.1), (0, .ref (tw_zB z + 33)), (1, .int x0)]) (stJ := fun a8 => []) (fun k9 hk9 a8 => ?_) n (v7, r6)
  refine r_iload X dX10_findWays_39 0 rfl ?_
  refine r_if_lt X dX10_findWays_41 (tgt := 108) (by decide) ?_ ?_
  ·
    exact r_vret X dX10_findWays_108 hret hQ rfl
  ·
    refine r_iconst X dX10_findWays_44 (v := (0 : Int32)) (by decide) ?_
    refine r_istore X dX10_findWays_45 (by decide) (LL := fun v10 => [(5, .int v10), (4, .int a8.1), (0, .ref (tw_zB z + 33)), (1, .int x0)]) (fun _ => rfl) (fun v10 => ?_)
    refine r_lp (α := Int32 × Int32 × tw_Sg) (σJ := fun a11 => a11.2.2) (pcJ := 47) (LJ := fun a11 => [(5, .int a11.2.1), (4, .int a11.1), (0, .ref (tw_zB z + 33)), (1, .int x0)]) (stJ := fun a11 => []) (fun k12 hk12 a11 => ?_) n (a8.1, v10, a8.2)
    refine r_iload X dX10_findWays_47 0 rfl ?_
    refine r_sipush X dX10_findWays_49 (v := (704 : Int32)) (by decide) ?_
    refine r_icmp_ge X dX10_findWays_52 (tgt := 102) (by decide) ?_ ?_
    ·
      refine r_iinc X dX10_findWays_102 1 rfl (v := (-1 : Int32)) (by decide) (by decide) (LL := fun v13 => [(4, .int v13), (5, .int a11.2.1), (0, .ref (tw_zB z + 33)), (1, .int x0)]) (fun _ => rfl) (fun v13 => ?_)
      refine r_goto X dX10_findWays_105 (tgt := 39) (by decide) ?_
      exact tw_Rf.sub [0, 2, 3] rfl (hk9 (v13, a11.2.2))
    ·
      refine r_aload_n X dX10_findWays_55 rfl 2 rfl ?_
      refine r_iload_n X dX10_findWays_56 rfl 3 rfl ?_
      refine r_iload X dX10_findWays_57 1 rfl ?_
      refine r_bd (fun r14 hr14 => ?_)
      refine tw_c_X10_layer X dX10_findWays_59 _ tw_w726  hr14 (tw_le hfr rfl) (tw_le hlo rfl) hcs (Nat.le_of_ble_eq_true rfl) trivial ?_
      refine r_ck (fun h15 => ?_)
      refine r_iload X dX10_findWays_62 0 rfl ?_
      refine r_bd (fun r16 hr16 => ?_)
      refine tw_c_X0_has X dX10_findWays_64 _ tw_w739 (of_decide_eq_true h15) hr16 (tw_le hfr rfl) (tw_le hlo rfl) hcs (Nat.le_of_ble_eq_true rfl) trivial ?_
      refine r_jn (α := tw_Sg) (σJ := fun a17 => a17) (pcJ := 96) (LJ := fun a17 => [(5, .int a11.2.1), (4, .int a11.1), (0, .ref (tw_zB z + 33)), (1, .int x0)]) (stJ := fun a17 => []) (ok := fun a17 => True) (fun a17 hoka17 => ?_) (fun j18 hj18 => ?_)
      ·
        refine r_iinc X dX10_findWays_96 0 rfl (v := (1 : Int32)) (by decide) (by decide) (LL := fun v19 => [(5, .int v19), (4, .int a11.1), (0, .ref (tw_zB z + 33)), (1, .int x0)]) (fun _ => rfl) (fun v19 => ?_)
        refine r_goto X dX10_findWays_99 (tgt := 47) (by decide) ?_
        exact hk12 (a11.1, v19, a17)
      refine r_if_eq X dX10_findWays_67 (tgt := 96) (by decide) ?_ ?_
      ·
        exact hj18 a11.2.2 trivial
      ·
        refine r_aload_n X dX10_findWays_70 rfl 2 rfl ?_
        refine r_iload_n X dX10_findWays_71 rfl 3 rfl ?_
        refine r_iload X dX10_findWays_72 1 rfl ?_
        refine r_iload X dX10_findWays_74 0 rfl ?_
        refine r_bd (fun r20 hr20 => ?_)
        refine tw_c_X10_fewestPaces X dX10_findWays_76 _ tw_w1162  hr20 (tw_le hfr rfl) (tw_le hlo rfl) hcs (Nat.le_of_ble_eq_true rfl) trivial ?_
        refine r_if_lt X dX10_findWays_79 (tgt := 96) (by decide) ?_ ?_
        ·
          exact hj18 a11.2.2 trivial
        ·
          refine r_aload_n X dX10_findWays_82 rfl 2 rfl ?_
          refine tw_g10_3 (k := 33) (v := .ref (tw_zB z + 112)) X dX10_findWays_83 _ tw_w338 tw_kc33 rfl ?_
          refine r_iload X dX10_findWays_86 1 rfl ?_
          refine r_bd (fun r21 hr21 => ?_)
          refine tw_c_X5_at X dX10_findWays_88 _ tw_w556 tw_kc112 hr21 (tw_le hfr rfl) (tw_le hlo rfl) hcs (Nat.le_of_ble_eq_true rfl) trivial ?_
          refine r_ck (fun h22 => ?_)
          refine r_iload X dX10_findWays_91 0 rfl ?_
          refine r_bd (fun r23 hr23 => ?_)
          refine tw_c_X0_add X dX10_findWays_93 _ tw_w738 (of_decide_eq_true h22) hr23 (tw_le hfr rfl) (tw_le hlo rfl) hcs (Nat.le_of_ble_eq_true rfl) trivial ?_
          exact hj18 r23 trivial
theorem tw_c_X10_findWays {ρ : Type} {z : tw_Z} {cc : ByteArray} {own : String} {nL pc : Nat} {σ : tw_Sg} {L : List (Nat × Value)} {st : List Value} {ix : Nat} {n : Nat} {x0 : Int32} {x1 : Int32} (X : tw_X z cc own nL) (d : decode cc pc = .ok (.invokevirtual ix, 3)) (i : Nat) (hi : lw_tbl[i]? = some (.methodLink own ix yX10_findWays))  {res : ρ} {E : Option ρ} {r : tw_Sg} (h : tw_P_X10_findWays n x0 x1 σ = some r) (h1 : 5 ≤ (tw_zR z).frames) (h2 : 122 ≤ (tw_zR z).locals) (hcs : tw_zcells z ≤ (tw_zR z).cells ∧ tw_zslots z ≤ (tw_zR z).slots) (hst : (st.map fun v => v.category).sum ≤ 8) (_ : True) (kk : tw_Rf z res E r (pc + 3) L (st)) : tw_Rf z res E σ pc L (.int x1 :: .int x0 :: .ref (tw_zB z + 33) :: st) := r_callV (As := [.int x0, .int x1]) X d (tw_m_X10_findWays  h) tw_y_X10_findWays tw_v_X10_findWays i hi rfl (tw_kd_lt tw_kc33 (by decide)) (tw_E10 tw_kc33) rfl ⟨rfl, rfl, h1, h2⟩ hcs hst rfl kk
def tw_P_X10_countStarts (n : Nat) (x0 : Int32) (x1 : Int32) (σ : tw_Sg) : Option (Int32 × tw_Sg) :=
tw_bd (tw_P_X10_findWays n x0 x1 σ) (fun r1 =>
tw_lt (0 : Int32) (fun (v2 : Int32) =>
tw_lt (0 : Int32) (fun (v3 : Int32) =>
tw_lp (fun (k5 : (Int32 × Int32) → Option (Int32 × tw_Sg)) (a4 : Int32 × Int32) =>
tw_bd (tw_P_X7_get 17 x0 r1) (fun r6 =>
if r6 ≤ a4.2 then (some (a4.1, r1))
else (tw_bd (tw_P_X5_at 112 (0 : Int32) r1) (fun r7 =>
tw_ck (decide (tw_kd r7 = 0)) (
tw_bd (tw_P_X10_startSpot x0 a4.2 r1) (fun r9 =>
tw_bd (tw_P_X0_has r7 r9 r1) (fun r10 =>
tw_jn (fun (a11 : Int32) =>
tw_lt (a4.1 + a11) (fun (v13 : Int32) =>
tw_lt (a4.2 + (1 : Int32)) (fun (v14 : Int32) =>
k5 (v13, v14)))) (fun (j12 : (Int32) → Option (Int32 × tw_Sg)) =>
if r10 = 0 then (j12 (0 : Int32))
else (j12 (1 : Int32)))))))))) n (v2, v3))))
theorem tw_y_X10_countStarts : tw_My yX10_countStarts cX10_countStarts 5 (some .int) 2 := ⟨List.mem_of_getElem? tw_w1184, List.mem_of_getElem? tw_w94, by decide +kernel, by decide +kernel, by decide +kernel⟩
theorem tw_v_X10_countStarts : tw_Mv yX10_countStarts "TreasureWalk$Trails" := ⟨List.mem_of_getElem? tw_w1182, List.mem_of_getElem? tw_w1183, rfl⟩
set_option maxRecDepth 100000 in
set_option maxHeartbeats 4000000 in
theorem tw_m_X10_countStarts {l : Launch} {B : Nat} {D : va_G} {C : Nat → ClassId} {S : Nat → Nat} {n : Nat} {x0 : Int32} {x1 : Int32} {σ : tw_Sg}  {r : Int32 × tw_Sg} (h : tw_P_X10_countStarts n x0 x1 σ = some r) : tw_Met l B D C S yX10_countStarts cX10_countStarts 5 (some .int) ({ frames := 5, cells := 0, slots := 0, locals := 122 } : Room) [.ref (B + 33), .int x0, .int x1] σ (some (.int r.1)) r.2 := by
  refine tw_metOfP (tw_P_X10_countStarts n x0 x1 σ) r h (fun r => (some (.int r.1), r.2)) (by decide +kernel) (Nat.le_of_ble_eq_true rfl) ⟨rfl, rfl⟩ ?_
  intro z el eB eD eC eS hfr hlo hcs X hret hQ
  subst el eB eD eC eS
  have X : tw_X z cX10_countStarts "TreasureWalk$Trails" 5 := X
  show tw_Rf z r _ σ 0 [(0, .ref (tw_zB z + 33)), (1, .int x0), (2, .int x1)] []
  unfold tw_P_X10_countStarts
  refine r_aload_n X dX10_countStarts_0 rfl 0 rfl ?_
  refine r_iload_n X dX10_countStarts_1 rfl 1 rfl ?_
  refine r_iload_n X dX10_countStarts_2 rfl 2 rfl ?_
  refine r_bd (fun r1 hr1 => ?_)
  refine tw_c_X10_findWays X dX10_countStarts_3 _ tw_w1158  hr1 (tw_le hfr rfl) (tw_le hlo rfl) hcs (Nat.le_of_ble_eq_true rfl) trivial ?_
  refine r_iconst X dX10_countStarts_6 (v := (0 : Int32)) (by decide) ?_
  refine r_istore_n X dX10_countStarts_7 rfl (by decide) (LL := fun v2 => [(3, .int v2), (0, .ref (tw_zB z + 33)), (1, .int x0), (2, .int x1)]) (fun _ => rfl) (fun v2 => ?_)
  refine r_iconst X dX10_countStarts_8 (v := (0 : Int32)) (by decide) ?_
  refine r_istore X dX10_countStarts_9 (by decide) (LL := fun v3 => [(4, .int v3), (3, .int v2), (0, .ref (tw_zB z + 33)), (1, .int x0), (2, .int x1)]) (fun _ => rfl) (fun v3 => ?_)
  refine tw_Rf.sub [0, 1, 2, 3] rfl ?_
  refine r_lp (α := Int32 × Int32) (σJ := fun a4 => r1) (pcJ := 11) (LJ := fun a4 => [(4, .int a4.2), (3, .int a4.1), (0, .ref (tw_zB z + 33)), (1, .int x0)]) (stJ := fun a4 => []) (fun k5 hk5 a4 => ?_) n (v2, v3)
  refine r_iload X dX10_countStarts_11 0 rfl ?_
  refine r_aload_n X dX10_countStarts_13 rfl 2 rfl ?_
  refine tw_g10_0 (k := 33) (v := .ref (tw_zB z + 1)) X dX10_countStarts_14 _ tw_w335 tw_kc33 rfl ?_
  refine tw_g2_9N (k := 1) (v := .ref (tw_zB z + 14)) X dX10_countStarts_17 _ tw_w239 tw_kc1 rfl ?_
  refine tw_g1_2N (k := 14) (v := .ref (tw_zB z + 17)) X dX10_countStarts_20 _ tw_w167 tw_kc14 rfl ?_
  refine r_iload_n X dX10_countStarts_23 rfl 3 rfl ?_
  refine r_bd (fun r6 hr6 => ?_)
  refine tw_c_X7_get X dX10_countStarts_24 _ tw_w555 tw_kc17 hr6 (tw_le hfr rfl) (tw_le hlo rfl) hcs (Nat.le_of_ble_eq_true rfl) trivial ?_
  refine r_icmp_ge X dX10_countStarts_27 (tgt := 65) (by decide) ?_ ?_
  ·
    refine r_iload_n X dX10_countStarts_65 rfl 1 rfl ?_
    exact r_iret X dX10_countStarts_66 hret hQ rfl
  ·
    refine r_iload_n X dX10_countStarts_30 rfl 1 rfl ?_
    refine r_aload_n X dX10_countStarts_31 rfl 2 rfl ?_
    refine tw_g10_3 (k := 33) (v := .ref (tw_zB z + 112)) X dX10_countStarts_32 _ tw_w338 tw_kc33 rfl ?_
    refine r_iconst X dX10_countStarts_35 (v := (0 : Int32)) (by decide) ?_
    refine r_bd (fun r7 hr7 => ?_)
    refine tw_c_X5_at X dX10_countStarts_36 _ tw_w556 tw_kc112 hr7 (tw_le hfr rfl) (tw_le hlo rfl) hcs (Nat.le_of_ble_eq_true rfl) trivial ?_
    refine r_ck (fun h8 => ?_)
    refine r_aload_n X dX10_countStarts_39 rfl 2 rfl ?_
    refine r_iload_n X dX10_countStarts_40 rfl 3 rfl ?_
    refine r_iload X dX10_countStarts_41 0 rfl ?_
    refine r_bd (fun r9 hr9 => ?_)
    refine tw_c_X10_startSpot X dX10_countStarts_43 _ tw_w730  hr9 (tw_le hfr rfl) (tw_le hlo rfl) hcs (Nat.le_of_ble_eq_true rfl) trivial ?_
    refine r_bd (fun r10 hr10 => ?_)
    refine tw_c_X0_has X dX10_countStarts_46 _ tw_w739 (of_decide_eq_true h8) hr10 (tw_le hfr rfl) (tw_le hlo rfl) hcs (Nat.le_of_ble_eq_true rfl) trivial ?_
    refine r_jn (α := Int32) (σJ := fun a11 => r1) (pcJ := 57) (LJ := fun a11 => [(4, .int a4.2), (0, .ref (tw_zB z + 33)), (1, .int x0)]) (stJ := fun a11 => [.int a11, .int a4.1]) (ok := fun a11 => True) (fun a11 hoka11 => ?_) (fun j12 hj12 => ?_)
    ·
      refine r_iadd X dX10_countStarts_57 ?_
      refine r_istore_n X dX10_countStarts_58 rfl (by decide) (LL := fun v13 => [(3, .int v13), (4, .int a4.2), (0, .ref (tw_zB z + 33)), (1, .int x0)]) (fun _ => rfl) (fun v13 => ?_)
      refine r_iinc X dX10_countStarts_59 1 rfl (v := (1 : Int32)) (by decide) (by decide) (LL := fun v14 => [(4, .int v14), (3, .int v13), (0, .ref (tw_zB z + 33)), (1, .int x0)]) (fun _ => rfl) (fun v14 => ?_)
      refine r_goto X dX10_countStarts_62 (tgt := 11) (by decide) ?_
      exact hk5 (v13, v14)
    refine r_if_eq X dX10_countStarts_49 (tgt := 56) (by decide) ?_ ?_
    ·
      refine r_iconst X dX10_countStarts_56 (v := (0 : Int32)) (by decide) ?_
      exact tw_Rf.sub [0, 2, 3] rfl (hj12 (0 : Int32) trivial)
    ·
      refine r_iconst X dX10_countStarts_52 (v := (1 : Int32)) (by decide) ?_
      refine r_goto X dX10_countStarts_53 (tgt := 57) (by decide) ?_
      exact tw_Rf.sub [0, 2, 3] rfl (hj12 (1 : Int32) trivial)
theorem tw_c_X10_countStarts {ρ : Type} {z : tw_Z} {cc : ByteArray} {own : String} {nL pc : Nat} {σ : tw_Sg} {L : List (Nat × Value)} {st : List Value} {ix : Nat} {n : Nat} {x0 : Int32} {x1 : Int32} (X : tw_X z cc own nL) (d : decode cc pc = .ok (.invokevirtual ix, 3)) (i : Nat) (hi : lw_tbl[i]? = some (.methodLink own ix yX10_countStarts))  {res : ρ} {E : Option ρ} {r : Int32 × tw_Sg} (h : tw_P_X10_countStarts n x0 x1 σ = some r) (h1 : 6 ≤ (tw_zR z).frames) (h2 : 146 ≤ (tw_zR z).locals) (hcs : tw_zcells z ≤ (tw_zR z).cells ∧ tw_zslots z ≤ (tw_zR z).slots) (hst : (st.map fun v => v.category).sum ≤ 8) (_ : True) (kk : tw_Rf z res E r.2 (pc + 3) L (.int r.1 :: st)) : tw_Rf z res E σ pc L (.int x1 :: .int x0 :: .ref (tw_zB z + 33) :: st) := r_callV (As := [.int x0, .int x1]) X d (tw_m_X10_countStarts  h) tw_y_X10_countStarts tw_v_X10_countStarts i hi rfl (tw_kd_lt tw_kc33 (by decide)) (tw_E10 tw_kc33) rfl ⟨rfl, rfl, h1, h2⟩ hcs hst rfl kk
def tw_P_X10_firstStart (n : Nat) (x0 : Int32) (σ : tw_Sg) : Option (Int32) :=
tw_lt (0 : Int32) (fun (v1 : Int32) =>
tw_lp (fun (k3 : (Int32) → Option (Int32)) (a2 : Int32) =>
tw_bd (tw_P_X7_get 17 x0 σ) (fun r4 =>
if r4 ≤ a2 then (some (0 : Int32))
else (tw_bd (tw_P_X5_at 112 (0 : Int32) σ) (fun r5 =>
tw_ck (decide (tw_kd r5 = 0)) (
tw_bd (tw_P_X10_startSpot x0 a2 σ) (fun r7 =>
tw_bd (tw_P_X0_has r5 r7 σ) (fun r8 =>
if r8 = 0 then (tw_lt (a2 + (1 : Int32)) (fun (v9 : Int32) =>
k3 v9))
else (tw_bd (tw_P_X10_startSpot x0 a2 σ) (fun r10 =>
some r10))))))))) n v1)
theorem tw_y_X10_firstStart : tw_My yX10_firstStart cX10_firstStart 3 (some .int) 1 := ⟨List.mem_of_getElem? tw_w1169, List.mem_of_getElem? tw_w94, by decide +kernel, by decide +kernel, by decide +kernel⟩
theorem tw_v_X10_firstStart : tw_Mv yX10_firstStart "TreasureWalk$Trails" := ⟨List.mem_of_getElem? tw_w1168, List.mem_of_getElem? tw_w35, rfl⟩
set_option maxRecDepth 100000 in
set_option maxHeartbeats 4000000 in
theorem tw_m_X10_firstStart {l : Launch} {B : Nat} {D : va_G} {C : Nat → ClassId} {S : Nat → Nat} {n : Nat} {x0 : Int32} {σ : tw_Sg}  {r : Int32} (h : tw_P_X10_firstStart n x0 σ = some r) : tw_Met l B D C S yX10_firstStart cX10_firstStart 3 (some .int) ({ frames := 3, cells := 0, slots := 0, locals := 65 } : Room) [.ref (B + 33), .int x0] σ (some (.int r)) σ := by
  refine tw_metOfP (tw_P_X10_firstStart n x0 σ) r h (fun r => (some (.int r), σ)) (by decide +kernel) (Nat.le_of_ble_eq_true rfl) ⟨rfl, rfl⟩ ?_
  intro z el eB eD eC eS hfr hlo hcs X hret hQ
  subst el eB eD eC eS
  have X : tw_X z cX10_firstStart "TreasureWalk$Trails" 3 := X
  show tw_Rf z r _ σ 0 [(0, .ref (tw_zB z + 33)), (1, .int x0)] []
  unfold tw_P_X10_firstStart
  refine r_iconst X dX10_firstStart_0 (v := (0 : Int32)) (by decide) ?_
  refine r_istore_n X dX10_firstStart_1 rfl (by decide) (LL := fun v1 => [(2, .int v1), (0, .ref (tw_zB z + 33)), (1, .int x0)]) (fun _ => rfl) (fun v1 => ?_)
  refine r_lp (α := Int32) (σJ := fun a2 => σ) (pcJ := 2) (LJ := fun a2 => [(2, .int a2), (0, .ref (tw_zB z + 33)), (1, .int x0)]) (stJ := fun a2 => []) (fun k3 hk3 a2 => ?_) n v1
  refine r_iload_n X dX10_firstStart_2 rfl 0 rfl ?_
  refine r_aload_n X dX10_firstStart_3 rfl 1 rfl ?_
  refine tw_g10_0 (k := 33) (v := .ref (tw_zB z + 1)) X dX10_firstStart_4 _ tw_w335 tw_kc33 rfl ?_
  refine tw_g2_9N (k := 1) (v := .ref (tw_zB z + 14)) X dX10_firstStart_7 _ tw_w239 tw_kc1 rfl ?_
  refine tw_g1_2N (k := 14) (v := .ref (tw_zB z + 17)) X dX10_firstStart_10 _ tw_w167 tw_kc14 rfl ?_
  refine r_iload_n X dX10_firstStart_13 rfl 2 rfl ?_
  refine r_bd (fun r4 hr4 => ?_)
  refine tw_c_X7_get X dX10_firstStart_14 _ tw_w555 tw_kc17 hr4 (tw_le hfr rfl) (tw_le hlo rfl) hcs (Nat.le_of_ble_eq_true rfl) trivial ?_
  refine r_icmp_ge X dX10_firstStart_17 (tgt := 53) (by decide) ?_ ?_
  ·
    refine r_iconst X dX10_firstStart_53 (v := (0 : Int32)) (by decide) ?_
    exact r_iret X dX10_firstStart_54 hret hQ rfl
  ·
    refine r_aload_n X dX10_firstStart_20 rfl 1 rfl ?_
    refine tw_g10_3 (k := 33) (v := .ref (tw_zB z + 112)) X dX10_firstStart_21 _ tw_w338 tw_kc33 rfl ?_
    refine r_iconst X dX10_firstStart_24 (v := (0 : Int32)) (by decide) ?_
    refine r_bd (fun r5 hr5 => ?_)
    refine tw_c_X5_at X dX10_firstStart_25 _ tw_w556 tw_kc112 hr5 (tw_le hfr rfl) (tw_le hlo rfl) hcs (Nat.le_of_ble_eq_true rfl) trivial ?_
    refine r_ck (fun h6 => ?_)
    refine r_aload_n X dX10_firstStart_28 rfl 1 rfl ?_
    refine r_iload_n X dX10_firstStart_29 rfl 2 rfl ?_
    refine r_iload_n X dX10_firstStart_30 rfl 0 rfl ?_
    refine r_bd (fun r7 hr7 => ?_)
    refine tw_c_X10_startSpot X dX10_firstStart_31 _ tw_w730  hr7 (tw_le hfr rfl) (tw_le hlo rfl) hcs (Nat.le_of_ble_eq_true rfl) trivial ?_
    refine r_bd (fun r8 hr8 => ?_)
    refine tw_c_X0_has X dX10_firstStart_34 _ tw_w739 (of_decide_eq_true h6) hr8 (tw_le hfr rfl) (tw_le hlo rfl) hcs (Nat.le_of_ble_eq_true rfl) trivial ?_
    refine r_if_eq X dX10_firstStart_37 (tgt := 47) (by decide) ?_ ?_
    ·
      refine r_iinc X dX10_firstStart_47 0 rfl (v := (1 : Int32)) (by decide) (by decide) (LL := fun v9 => [(2, .int v9), (0, .ref (tw_zB z + 33)), (1, .int x0)]) (fun _ => rfl) (fun v9 => ?_)
      refine r_goto X dX10_firstStart_50 (tgt := 2) (by decide) ?_
      exact hk3 v9
    ·
      refine r_aload_n X dX10_firstStart_40 rfl 1 rfl ?_
      refine r_iload_n X dX10_firstStart_41 rfl 2 rfl ?_
      refine r_iload_n X dX10_firstStart_42 rfl 0 rfl ?_
      refine r_bd (fun r10 hr10 => ?_)
      refine tw_c_X10_startSpot X dX10_firstStart_43 _ tw_w730  hr10 (tw_le hfr rfl) (tw_le hlo rfl) hcs (Nat.le_of_ble_eq_true rfl) trivial ?_
      exact r_iret X dX10_firstStart_46 hret hQ rfl
theorem tw_c_X10_firstStart {ρ : Type} {z : tw_Z} {cc : ByteArray} {own : String} {nL pc : Nat} {σ : tw_Sg} {L : List (Nat × Value)} {st : List Value} {ix : Nat} {n : Nat} {x0 : Int32} (X : tw_X z cc own nL) (d : decode cc pc = .ok (.invokevirtual ix, 3)) (i : Nat) (hi : lw_tbl[i]? = some (.methodLink own ix yX10_firstStart))  {res : ρ} {E : Option ρ} {r : Int32} (h : tw_P_X10_firstStart n x0 σ = some r) (h1 : 4 ≤ (tw_zR z).frames) (h2 : 87 ≤ (tw_zR z).locals) (hcs : tw_zcells z ≤ (tw_zR z).cells ∧ tw_zslots z ≤ (tw_zR z).slots) (hst : (st.map fun v => v.category).sum ≤ 8) (_ : True) (kk : tw_Rf z res E σ (pc + 3) L (.int r :: st)) : tw_Rf z res E σ pc L (.int x0 :: .ref (tw_zB z + 33) :: st) := r_callV (As := [.int x0]) X d (tw_m_X10_firstStart  h) tw_y_X10_firstStart tw_v_X10_firstStart i hi rfl (tw_kd_lt tw_kc33 (by decide)) (tw_E10 tw_kc33) rfl ⟨rfl, rfl, h1, h2⟩ hcs hst rfl kk
def tw_P_X10_spotBehind (n : Nat) (x0 : Int32) (x1 : Int32) (x2 : Int32) (x3 : Int32) (σ : tw_Sg) : Option (Int32) :=
tw_bd (tw_P_X7_get 25 ((x0 * (8 : Int32)) + x1) σ) (fun r1 =>
tw_lt r1 (fun (v2 : Int32) =>
tw_lt x2 (fun (v3 : Int32) =>
tw_lt (0 : Int32) (fun (v4 : Int32) =>
tw_lp (fun (k6 : (Int32 × Int32) → Option (Int32)) (a5 : Int32 × Int32) =>
if x3 ≤ a5.2 then (some a5.1)
else (tw_bd (tw_P_X10_step a5.1 v2 σ) (fun r7 =>
tw_lt r7 (fun (v8 : Int32) =>
tw_lt (a5.2 + (1 : Int32)) (fun (v9 : Int32) =>
k6 (v8, v9)))))) n (v3, v4)))))
theorem tw_y_X10_spotBehind : tw_My yX10_spotBehind cX10_spotBehind 8 (some .int) 4 := ⟨List.mem_of_getElem? tw_w1173, List.mem_of_getElem? tw_w94, by decide +kernel, by decide +kernel, by decide +kernel⟩
theorem tw_v_X10_spotBehind : tw_Mv yX10_spotBehind "TreasureWalk$Trails" := ⟨List.mem_of_getElem? tw_w1172, List.mem_of_getElem? tw_w36, rfl⟩
set_option maxRecDepth 100000 in
set_option maxHeartbeats 4000000 in
theorem tw_m_X10_spotBehind {l : Launch} {B : Nat} {D : va_G} {C : Nat → ClassId} {S : Nat → Nat} {n : Nat} {x0 : Int32} {x1 : Int32} {x2 : Int32} {x3 : Int32} {σ : tw_Sg}  {r : Int32} (h : tw_P_X10_spotBehind n x0 x1 x2 x3 σ = some r) : tw_Met l B D C S yX10_spotBehind cX10_spotBehind 8 (some .int) ({ frames := 2, cells := 0, slots := 0, locals := 45 } : Room) [.ref (B + 33), .int x0, .int x1, .int x2, .int x3] σ (some (.int r)) σ := by
  refine tw_metOfP (tw_P_X10_spotBehind n x0 x1 x2 x3 σ) r h (fun r => (some (.int r), σ)) (by decide +kernel) (Nat.le_of_ble_eq_true rfl) ⟨rfl, rfl⟩ ?_
  intro z el eB eD eC eS hfr hlo hcs X hret hQ
  subst el eB eD eC eS
  have X : tw_X z cX10_spotBehind "TreasureWalk$Trails" 8 := X
  show tw_Rf z r _ σ 0 [(0, .ref (tw_zB z + 33)), (1, .int x0), (2, .int x1), (3, .int x2), (4, .int x3)] []
  unfold tw_P_X10_spotBehind
  refine r_aload_n X dX10_spotBehind_0 rfl 0 rfl ?_
  refine tw_g10_0 (k := 33) (v := .ref (tw_zB z + 1)) X dX10_spotBehind_1 _ tw_w335 tw_kc33 rfl ?_
  refine tw_g2_9N (k := 1) (v := .ref (tw_zB z + 14)) X dX10_spotBehind_4 _ tw_w239 tw_kc1 rfl ?_
  refine tw_g1_6N (k := 14) (v := .ref (tw_zB z + 25)) X dX10_spotBehind_7 _ tw_w177 tw_kc14 rfl ?_
  refine r_iload_n X dX10_spotBehind_10 rfl 1 rfl ?_
  refine r_bipush X dX10_spotBehind_11 (v := (8 : Int32)) (by decide) ?_
  refine r_imul X dX10_spotBehind_13 ?_
  refine r_iload_n X dX10_spotBehind_14 rfl 2 rfl ?_
  refine r_iadd X dX10_spotBehind_15 ?_
  refine r_bd (fun r1 hr1 => ?_)
  refine tw_c_X7_get X dX10_spotBehind_16 _ tw_w555 tw_kc25 hr1 (tw_le hfr rfl) (tw_le hlo rfl) hcs (Nat.le_of_ble_eq_true rfl) trivial ?_
  refine r_istore X dX10_spotBehind_19 (by decide) (LL := fun v2 => [(5, .int v2), (0, .ref (tw_zB z + 33)), (1, .int x0), (2, .int x1), (3, .int x2), (4, .int x3)]) (fun _ => rfl) (fun v2 => ?_)
  refine r_iload_n X dX10_spotBehind_21 rfl 4 rfl ?_
  refine r_istore X dX10_spotBehind_22 (by decide) (LL := fun v3 => [(6, .int v3), (5, .int v2), (0, .ref (tw_zB z + 33)), (1, .int x0), (2, .int x1), (3, .int x2), (4, .int x3)]) (fun _ => rfl) (fun v3 => ?_)
  refine r_iconst X dX10_spotBehind_24 (v := (0 : Int32)) (by decide) ?_
  refine r_istore X dX10_spotBehind_25 (by decide) (LL := fun v4 => [(7, .int v4), (6, .int v3), (5, .int v2), (0, .ref (tw_zB z + 33)), (1, .int x0), (2, .int x1), (3, .int x2), (4, .int x3)]) (fun _ => rfl) (fun v4 => ?_)
  refine tw_Rf.sub [0, 1, 2, 3, 7] rfl ?_
  refine r_lp (α := Int32 × Int32) (σJ := fun a5 => σ) (pcJ := 27) (LJ := fun a5 => [(7, .int a5.2), (6, .int a5.1), (5, .int v2), (0, .ref (tw_zB z + 33)), (4, .int x3)]) (stJ := fun a5 => []) (fun k6 hk6 a5 => ?_) n (v3, v4)
  refine r_iload X dX10_spotBehind_27 0 rfl ?_
  refine r_iload X dX10_spotBehind_29 4 rfl ?_
  refine r_icmp_ge X dX10_spotBehind_31 (tgt := 50) (by decide) ?_ ?_
  ·
    refine r_iload X dX10_spotBehind_50 1 rfl ?_
    exact r_iret X dX10_spotBehind_52 hret hQ rfl
  ·
    refine r_aload_n X dX10_spotBehind_34 rfl 3 rfl ?_
    refine r_iload X dX10_spotBehind_35 1 rfl ?_
    refine r_iload X dX10_spotBehind_37 2 rfl ?_
    refine r_bd (fun r7 hr7 => ?_)
    refine tw_c_X10_step X dX10_spotBehind_39 _ tw_w748  hr7 (tw_le hfr rfl) (tw_le hlo rfl) hcs (Nat.le_of_ble_eq_true rfl) trivial ?_
    refine r_istore X dX10_spotBehind_42 (by decide) (LL := fun v8 => [(6, .int v8), (7, .int a5.2), (5, .int v2), (0, .ref (tw_zB z + 33)), (4, .int x3)]) (fun _ => rfl) (fun v8 => ?_)
    refine r_iinc X dX10_spotBehind_44 1 rfl (v := (1 : Int32)) (by decide) (by decide) (LL := fun v9 => [(7, .int v9), (6, .int v8), (5, .int v2), (0, .ref (tw_zB z + 33)), (4, .int x3)]) (fun _ => rfl) (fun v9 => ?_)
    refine r_goto X dX10_spotBehind_47 (tgt := 27) (by decide) ?_
    exact hk6 (v8, v9)
theorem tw_c_X10_spotBehind {ρ : Type} {z : tw_Z} {cc : ByteArray} {own : String} {nL pc : Nat} {σ : tw_Sg} {L : List (Nat × Value)} {st : List Value} {ix : Nat} {n : Nat} {x0 : Int32} {x1 : Int32} {x2 : Int32} {x3 : Int32} (X : tw_X z cc own nL) (d : decode cc pc = .ok (.invokevirtual ix, 3)) (i : Nat) (hi : lw_tbl[i]? = some (.methodLink own ix yX10_spotBehind))  {res : ρ} {E : Option ρ} {r : Int32} (h : tw_P_X10_spotBehind n x0 x1 x2 x3 σ = some r) (h1 : 3 ≤ (tw_zR z).frames) (h2 : 72 ≤ (tw_zR z).locals) (hcs : tw_zcells z ≤ (tw_zR z).cells ∧ tw_zslots z ≤ (tw_zR z).slots) (hst : (st.map fun v => v.category).sum ≤ 8) (_ : True) (kk : tw_Rf z res E σ (pc + 3) L (.int r :: st)) : tw_Rf z res E σ pc L (.int x3 :: .int x2 :: .int x1 :: .int x0 :: .ref (tw_zB z + 33) :: st) := r_callV (As := [.int x0, .int x1, .int x2, .int x3]) X d (tw_m_X10_spotBehind  h) tw_y_X10_spotBehind tw_v_X10_spotBehind i hi rfl (tw_kd_lt tw_kc33 (by decide)) (tw_E10 tw_kc33) rfl ⟨rfl, rfl, h1, h2⟩ hcs hst rfl kk
def tw_P_X10_firstWalkPaces (n : Nat) (x0 : Int32) (x1 : Int32) (x2 : Int32) (σ : tw_Sg) : Option (Int32 × tw_Sg) :=
tw_bd (tw_P_X10_findWays n x0 x1 σ) (fun r1 =>
tw_bd (tw_P_X10_firstStart n x0 r1) (fun r2 =>
tw_lt r2 (fun (v3 : Int32) =>
tw_lt (0 : Int32) (fun (v4 : Int32) =>
tw_lp (fun (k6 : (Int32 × Int32) → Option (Int32 × tw_Sg)) (a5 : Int32 × Int32) =>
if x2 ≤ a5.2 then (tw_bd (tw_P_X10_fewestPaces n x0 x2 a5.1 r1) (fun r7 =>
some (r7, r1)))
else (tw_bd (tw_P_X10_fewestPaces n x0 a5.2 a5.1 r1) (fun r8 =>
tw_bd (tw_P_X10_spotBehind n x0 a5.2 a5.1 r8 r1) (fun r9 =>
tw_lt r9 (fun (v10 : Int32) =>
tw_lt (a5.2 + (1 : Int32)) (fun (v11 : Int32) =>
k6 (v10, v11))))))) n (v3, v4)))))
theorem tw_y_X10_firstWalkPaces : tw_My yX10_firstWalkPaces cX10_firstWalkPaces 6 (some .int) 3 := ⟨List.mem_of_getElem? tw_w1157, List.mem_of_getElem? tw_w94, by decide +kernel, by decide +kernel, by decide +kernel⟩
theorem tw_v_X10_firstWalkPaces : tw_Mv yX10_firstWalkPaces "TreasureWalk$Trails" := ⟨List.mem_of_getElem? tw_w1155, List.mem_of_getElem? tw_w1156, rfl⟩
set_option maxRecDepth 100000 in
set_option maxHeartbeats 4000000 in
theorem tw_m_X10_firstWalkPaces {l : Launch} {B : Nat} {D : va_G} {C : Nat → ClassId} {S : Nat → Nat} {n : Nat} {x0 : Int32} {x1 : Int32} {x2 : Int32} {σ : tw_Sg}  {r : Int32 × tw_Sg} (h : tw_P_X10_firstWalkPaces n x0 x1 x2 σ = some r) : tw_Met l B D C S yX10_firstWalkPaces cX10_firstWalkPaces 6 (some .int) ({ frames := 5, cells := 0, slots := 0, locals := 122 } : Room) [.ref (B + 33), .int x0, .int x1, .int x2] σ (some (.int r.1)) r.2 := by
  refine tw_metOfP (tw_P_X10_firstWalkPaces n x0 x1 x2 σ) r h (fun r => (some (.int r.1), r.2)) (by decide +kernel) (Nat.le_of_ble_eq_true rfl) ⟨rfl, rfl⟩ ?_
  intro z el eB eD eC eS hfr hlo hcs X hret hQ
  subst el eB eD eC eS
  have X : tw_X z cX10_firstWalkPaces "TreasureWalk$Trails" 6 := X
  show tw_Rf z r _ σ 0 [(0, .ref (tw_zB z + 33)), (1, .int x0), (2, .int x1), (3, .int x2)] []
  unfold tw_P_X10_firstWalkPaces
  refine r_aload_n X dX10_firstWalkPaces_0 rfl 0 rfl ?_
  refine r_iload_n X dX10_firstWalkPaces_1 rfl 1 rfl ?_
  refine r_iload_n X dX10_firstWalkPaces_2 rfl 2 rfl ?_
  refine r_bd (fun r1 hr1 => ?_)
  refine tw_c_X10_findWays X dX10_firstWalkPaces_3 _ tw_w1158  hr1 (tw_le hfr rfl) (tw_le hlo rfl) hcs (Nat.le_of_ble_eq_true rfl) trivial ?_
  refine r_aload_n X dX10_firstWalkPaces_6 rfl 0 rfl ?_
  refine r_iload_n X dX10_firstWalkPaces_7 rfl 1 rfl ?_
  refine r_bd (fun r2 hr2 => ?_)
  refine tw_c_X10_firstStart X dX10_firstWalkPaces_8 _ tw_w1166  hr2 (tw_le hfr rfl) (tw_le hlo rfl) hcs (Nat.le_of_ble_eq_true rfl) trivial ?_
  refine r_istore X dX10_firstWalkPaces_11 (by decide) (LL := fun v3 => [(4, .int v3), (0, .ref (tw_zB z + 33)), (1, .int x0), (2, .int x1), (3, .int x2)]) (fun _ => rfl) (fun v3 => ?_)
  refine r_iconst X dX10_firstWalkPaces_13 (v := (0 : Int32)) (by decide) ?_
  refine r_istore X dX10_firstWalkPaces_14 (by decide) (LL := fun v4 => [(5, .int v4), (4, .int v3), (0, .ref (tw_zB z + 33)), (1, .int x0), (2, .int x1), (3, .int x2)]) (fun _ => rfl) (fun v4 => ?_)
  refine tw_Rf.sub [0, 1, 2, 3, 5] rfl ?_
  refine r_lp (α := Int32 × Int32) (σJ := fun a5 => r1) (pcJ := 16) (LJ := fun a5 => [(5, .int a5.2), (4, .int a5.1), (0, .ref (tw_zB z + 33)), (1, .int x0), (3, .int x2)]) (stJ := fun a5 => []) (fun k6 hk6 a5 => ?_) n (v3, v4)
  refine r_iload X dX10_firstWalkPaces_16 0 rfl ?_
  refine r_iload_n X dX10_firstWalkPaces_18 rfl 4 rfl ?_
  refine r_icmp_ge X dX10_firstWalkPaces_19 (tgt := 48) (by decide) ?_ ?_
  ·
    refine r_aload_n X dX10_firstWalkPaces_48 rfl 2 rfl ?_
    refine r_iload_n X dX10_firstWalkPaces_49 rfl 3 rfl ?_
    refine r_iload_n X dX10_firstWalkPaces_50 rfl 4 rfl ?_
    refine r_iload X dX10_firstWalkPaces_51 1 rfl ?_
    refine r_bd (fun r7 hr7 => ?_)
    refine tw_c_X10_fewestPaces X dX10_firstWalkPaces_53 _ tw_w1162  hr7 (tw_le hfr rfl) (tw_le hlo rfl) hcs (Nat.le_of_ble_eq_true rfl) trivial ?_
    exact r_iret X dX10_firstWalkPaces_56 hret hQ rfl
  ·
    refine r_aload_n X dX10_firstWalkPaces_22 rfl 2 rfl ?_
    refine r_iload_n X dX10_firstWalkPaces_23 rfl 3 rfl ?_
    refine r_iload X dX10_firstWalkPaces_24 0 rfl ?_
    refine r_iload X dX10_firstWalkPaces_26 1 rfl ?_
    refine r_aload_n X dX10_firstWalkPaces_28 rfl 2 rfl ?_
    refine r_iload_n X dX10_firstWalkPaces_29 rfl 3 rfl ?_
    refine r_iload X dX10_firstWalkPaces_30 0 rfl ?_
    refine r_iload X dX10_firstWalkPaces_32 1 rfl ?_
    refine r_bd (fun r8 hr8 => ?_)
    refine tw_c_X10_fewestPaces X dX10_firstWalkPaces_34 _ tw_w1162  hr8 (tw_le hfr rfl) (tw_le hlo rfl) hcs (Nat.le_of_ble_eq_true rfl) trivial ?_
    refine r_bd (fun r9 hr9 => ?_)
    refine tw_c_X10_spotBehind X dX10_firstWalkPaces_37 _ tw_w1170  hr9 (tw_le hfr rfl) (tw_le hlo rfl) hcs (Nat.le_of_ble_eq_true rfl) trivial ?_
    refine r_istore X dX10_firstWalkPaces_40 (by decide) (LL := fun v10 => [(4, .int v10), (5, .int a5.2), (0, .ref (tw_zB z + 33)), (1, .int x0), (3, .int x2)]) (fun _ => rfl) (fun v10 => ?_)
    refine r_iinc X dX10_firstWalkPaces_42 1 rfl (v := (1 : Int32)) (by decide) (by decide) (LL := fun v11 => [(5, .int v11), (4, .int v10), (0, .ref (tw_zB z + 33)), (1, .int x0), (3, .int x2)]) (fun _ => rfl) (fun v11 => ?_)
    refine r_goto X dX10_firstWalkPaces_45 (tgt := 16) (by decide) ?_
    exact hk6 (v10, v11)
theorem tw_c_X10_firstWalkPaces {ρ : Type} {z : tw_Z} {cc : ByteArray} {own : String} {nL pc : Nat} {σ : tw_Sg} {L : List (Nat × Value)} {st : List Value} {ix : Nat} {n : Nat} {x0 : Int32} {x1 : Int32} {x2 : Int32} (X : tw_X z cc own nL) (d : decode cc pc = .ok (.invokevirtual ix, 3)) (i : Nat) (hi : lw_tbl[i]? = some (.methodLink own ix yX10_firstWalkPaces))  {res : ρ} {E : Option ρ} {r : Int32 × tw_Sg} (h : tw_P_X10_firstWalkPaces n x0 x1 x2 σ = some r) (h1 : 6 ≤ (tw_zR z).frames) (h2 : 147 ≤ (tw_zR z).locals) (hcs : tw_zcells z ≤ (tw_zR z).cells ∧ tw_zslots z ≤ (tw_zR z).slots) (hst : (st.map fun v => v.category).sum ≤ 8) (_ : True) (kk : tw_Rf z res E r.2 (pc + 3) L (.int r.1 :: st)) : tw_Rf z res E σ pc L (.int x2 :: .int x1 :: .int x0 :: .ref (tw_zB z + 33) :: st) := r_callV (As := [.int x0, .int x1, .int x2]) X d (tw_m_X10_firstWalkPaces  h) tw_y_X10_firstWalkPaces tw_v_X10_firstWalkPaces i hi rfl (tw_kd_lt tw_kc33 (by decide)) (tw_E10 tw_kc33) rfl ⟨rfl, rfl, h1, h2⟩ hcs hst rfl kk
def tw_P_X11_append (n : Nat) (x0 : Int32) (x1 : Int32) (x2 : Int32) (x3 : Int32) (x4 : Int32) (σ : tw_Sg) : Option (Int32 × tw_Sg) :=
if ((σ 400 1) + (20 : Int32)) ≤ (600 : Int32) then (tw_bd (tw_P_X6_addBytes n x0 σ) (fun r1 =>
tw_bd (tw_P_X6_addBytes n x1 r1) (fun r2 =>
tw_bd (tw_P_X6_addBytes n x2 r2) (fun r3 =>
tw_bd (tw_P_X6_addBytes n x3 r3) (fun r4 =>
tw_bd (tw_P_X6_addBytes n x4 r4) (fun r5 =>
some ((r5 400 1), r5)))))))
else (some ((-1 : Int32), σ))
theorem tw_y_X11_append : tw_My yX11_append cX11_append 6 (some .int) 5 := ⟨List.mem_of_getElem? tw_w504, List.mem_of_getElem? tw_w88, by decide +kernel, by decide +kernel, by decide +kernel⟩
theorem tw_v_X11_append : tw_Mv yX11_append "TreasureWalk" := ⟨List.mem_of_getElem? tw_w502, List.mem_of_getElem? tw_w503, rfl⟩
set_option maxRecDepth 100000 in
set_option maxHeartbeats 4000000 in
theorem tw_m_X11_append {l : Launch} {B : Nat} {D : va_G} {C : Nat → ClassId} {S : Nat → Nat} {n : Nat} {x0 : Int32} {x1 : Int32} {x2 : Int32} {x3 : Int32} {x4 : Int32} {σ : tw_Sg}  {r : Int32 × tw_Sg} (h : tw_P_X11_append n x0 x1 x2 x3 x4 σ = some r) : tw_Met l B D C S yX11_append cX11_append 6 (some .int) ({ frames := 2, cells := 0, slots := 0, locals := 44 } : Room) [.ref (B + 0), .int x0, .int x1, .int x2, .int x3, .int x4] σ (some (.int r.1)) r.2 := by
  refine tw_metOfP (tw_P_X11_append n x0 x1 x2 x3 x4 σ) r h (fun r => (some (.int r.1), r.2)) (by decide +kernel) (Nat.le_of_ble_eq_true rfl) ⟨rfl, rfl⟩ ?_
  intro z el eB eD eC eS hfr hlo hcs X hret hQ
  subst el eB eD eC eS
  have X : tw_X z cX11_append "TreasureWalk" 6 := X
  show tw_Rf z r _ σ 0 [(0, .ref (tw_zB z + 0)), (1, .int x0), (2, .int x1), (3, .int x2), (4, .int x3), (5, .int x4)] []
  unfold tw_P_X11_append
  refine r_aload_n X dX11_append_0 rfl 0 rfl ?_
  refine tw_g11_2 (k := 0) (v := .ref (tw_zB z + 400)) X dX11_append_1 _ tw_w481 tw_kc0 rfl ?_
  refine tw_g6_1N (k := 400) (v := .int (σ 400 1)) X dX11_append_4 _ tw_w416 tw_kc400 rfl ?_
  refine r_bipush X dX11_append_7 (v := (20 : Int32)) (by decide) ?_
  refine r_iadd X dX11_append_9 ?_
  refine r_sipush X dX11_append_10 (v := (600 : Int32)) (by decide) ?_
  refine r_icmp_le X dX11_append_13 (tgt := 18) (by decide) ?_ ?_
  ·
    refine r_aload_n X dX11_append_18 rfl 0 rfl ?_
    refine tw_g11_2 (k := 0) (v := .ref (tw_zB z + 400)) X dX11_append_19 _ tw_w481 tw_kc0 rfl ?_
    refine r_iload_n X dX11_append_22 rfl 1 rfl ?_
    refine r_bd (fun r1 hr1 => ?_)
    refine tw_c_X6_addBytes X dX11_append_23 _ tw_w505  hr1 (tw_le hfr rfl) (tw_le hlo rfl) hcs (Nat.le_of_ble_eq_true rfl) trivial ?_
    refine r_aload_n X dX11_append_26 rfl 0 rfl ?_
    refine tw_g11_2 (k := 0) (v := .ref (tw_zB z + 400)) X dX11_append_27 _ tw_w481 tw_kc0 rfl ?_
    refine r_iload_n X dX11_append_30 rfl 2 rfl ?_
    refine r_bd (fun r2 hr2 => ?_)
    refine tw_c_X6_addBytes X dX11_append_31 _ tw_w505  hr2 (tw_le hfr rfl) (tw_le hlo rfl) hcs (Nat.le_of_ble_eq_true rfl) trivial ?_
    refine r_aload_n X dX11_append_34 rfl 0 rfl ?_
    refine tw_g11_2 (k := 0) (v := .ref (tw_zB z + 400)) X dX11_append_35 _ tw_w481 tw_kc0 rfl ?_
    refine r_iload_n X dX11_append_38 rfl 3 rfl ?_
    refine r_bd (fun r3 hr3 => ?_)
    refine tw_c_X6_addBytes X dX11_append_39 _ tw_w505  hr3 (tw_le hfr rfl) (tw_le hlo rfl) hcs (Nat.le_of_ble_eq_true rfl) trivial ?_
    refine r_aload_n X dX11_append_42 rfl 0 rfl ?_
    refine tw_g11_2 (k := 0) (v := .ref (tw_zB z + 400)) X dX11_append_43 _ tw_w481 tw_kc0 rfl ?_
    refine r_iload X dX11_append_46 4 rfl ?_
    refine r_bd (fun r4 hr4 => ?_)
    refine tw_c_X6_addBytes X dX11_append_48 _ tw_w505  hr4 (tw_le hfr rfl) (tw_le hlo rfl) hcs (Nat.le_of_ble_eq_true rfl) trivial ?_
    refine r_aload_n X dX11_append_51 rfl 0 rfl ?_
    refine tw_g11_2 (k := 0) (v := .ref (tw_zB z + 400)) X dX11_append_52 _ tw_w481 tw_kc0 rfl ?_
    refine r_iload X dX11_append_55 5 rfl ?_
    refine r_bd (fun r5 hr5 => ?_)
    refine tw_c_X6_addBytes X dX11_append_57 _ tw_w505  hr5 (tw_le hfr rfl) (tw_le hlo rfl) hcs (Nat.le_of_ble_eq_true rfl) trivial ?_
    refine r_aload_n X dX11_append_60 rfl 0 rfl ?_
    refine tw_g11_2 (k := 0) (v := .ref (tw_zB z + 400)) X dX11_append_61 _ tw_w481 tw_kc0 rfl ?_
    refine tw_g6_1N (k := 400) (v := .int (r5 400 1)) X dX11_append_64 _ tw_w416 tw_kc400 rfl ?_
    exact r_iret X dX11_append_67 hret hQ rfl
  ·
    refine r_iconst X dX11_append_16 (v := (-1 : Int32)) (by decide) ?_
    exact r_iret X dX11_append_17 hret hQ rfl
theorem tw_c_X11_append {ρ : Type} {z : tw_Z} {cc : ByteArray} {own : String} {nL pc : Nat} {σ : tw_Sg} {L : List (Nat × Value)} {st : List Value} {ix : Nat} {n : Nat} {x0 : Int32} {x1 : Int32} {x2 : Int32} {x3 : Int32} {x4 : Int32} (X : tw_X z cc own nL) (d : decode cc pc = .ok (.invokevirtual ix, 3)) (i : Nat) (hi : lw_tbl[i]? = some (.methodLink own ix yX11_append))  {res : ρ} {E : Option ρ} {r : Int32 × tw_Sg} (h : tw_P_X11_append n x0 x1 x2 x3 x4 σ = some r) (h1 : 3 ≤ (tw_zR z).frames) (h2 : 69 ≤ (tw_zR z).locals) (hcs : tw_zcells z ≤ (tw_zR z).cells ∧ tw_zslots z ≤ (tw_zR z).slots) (hst : (st.map fun v => v.category).sum ≤ 8) (_ : True) (kk : tw_Rf z res E r.2 (pc + 3) L (.int r.1 :: st)) : tw_Rf z res E σ pc L (.int x4 :: .int x3 :: .int x2 :: .int x1 :: .int x0 :: .ref (tw_zB z + 0) :: st) := r_callV (As := [.int x0, .int x1, .int x2, .int x3, .int x4]) X d (tw_m_X11_append  h) tw_y_X11_append tw_v_X11_append i hi rfl (tw_kd_lt tw_kc0 (by decide)) (tw_E11 tw_kc0) rfl ⟨rfl, rfl, h1, h2⟩ hcs hst rfl kk
def tw_P_X11_load (n : Nat) (x0 : Int32) (σ : tw_Sg) : Option ((Int32 × tw_Sg) ⊕ String) :=
tw_jn (fun (a1 : Unit) =>
some (Sum.inr "java/lang/IllegalArgumentException")) (fun (j2 : (Unit) → Option ((Int32 × tw_Sg) ⊕ String)) =>
if x0 < 0 then (j2 ())
else (if x0 ≤ (σ 400 1) then (tw_bd (tw_P_X6_read n x0 σ) (fun r3 =>
tw_lt r3.1 (fun (v4 : Int32) =>
tw_lt (tw_up r3.2 0 6 (r3.2 400 8)) (fun (σ5 : tw_Sg) =>
if v4 = 0 then (tw_bd (tw_P_X4_keep 1 σ5) (fun r6 =>
tw_bd (tw_P_X2_copyFrom 1 403 r6) (fun r7 =>
tw_bd (tw_P_X10_renew n r7) (fun r8 =>
some (Sum.inl ((r8 14 0), r8))))))
else (some (Sum.inl (v4, σ5)))))))
else (j2 ())))
theorem tw_y_X11_load : tw_My yX11_load cX11_load 3 (some .int) 1 := ⟨List.mem_of_getElem? tw_w890, List.mem_of_getElem? tw_w88, by decide +kernel, by decide +kernel, by decide +kernel⟩
theorem tw_v_X11_load : tw_Mv yX11_load "TreasureWalk" := ⟨List.mem_of_getElem? tw_w888, List.mem_of_getElem? tw_w889, rfl⟩
set_option maxRecDepth 100000 in
set_option maxHeartbeats 4000000 in
theorem tw_b_X11_load {l : Launch} {B : Nat} {D : va_G} {C : Nat → ClassId} {S : Nat → Nat} {n : Nat} {x0 : Int32} {σ : tw_Sg}  (z : tw_Z) (res : (Int32 × tw_Sg) ⊕ String) (el : tw_zl z = l) (eB : tw_zB z = B) (eD : tw_zD z = D) (eC : tw_zC z = C) (eS : tw_zS z = S) (hfr : (tw_zR z).frames = 11) (hlo : (tw_zR z).locals = 235) (hcs : tw_zcells z ≤ (tw_zR z).cells ∧ tw_zslots z ≤ (tw_zR z).slots) (X : tw_X z cX11_load "TreasureWalk" 3) (hret : (tw_zmeth z).sig.returnType = (some .int)) (hQ : tw_RoX z (fun r => (some (.int r.1), r.2)) res) (hT : ∀ x, res = .inr x → tw_To z σ x) : tw_Rf z res (tw_P_X11_load n x0 σ) σ 0 (lv_args 0 [.ref (B + 0), .int x0]) [] := by
  subst el eB eD eC eS
  show tw_Rf z res _ σ 0 [(0, .ref (tw_zB z + 0)), (1, .int x0)] []
  unfold tw_P_X11_load
  refine r_iload_n X dX11_load_0 rfl 1 rfl ?_
  refine r_jn (α := Unit) (σJ := fun a1 => σ) (pcJ := 15) (LJ := fun a1 => []) (stJ := fun a1 => []) (ok := fun a1 => True) (fun a1 hoka1 => ?_) (fun j2 hj2 => ?_)
  ·
    exact tw_th0_A X dX11_load_15 dX11_load_18 dX11_load_19 dX11_load_21 dX11_load_24 rfl tw_l_A_81 hT
  refine r_if_lt X dX11_load_1 (tgt := 15) (by decide) ?_ ?_
  ·
    exact tw_Rf.sub [] rfl (hj2 () trivial)
  ·
    refine r_iload_n X dX11_load_4 rfl 1 rfl ?_
    refine r_aload_n X dX11_load_5 rfl 0 rfl ?_
    refine tw_g11_2 (k := 0) (v := .ref (tw_zB z + 400)) X dX11_load_6 _ tw_w481 tw_kc0 rfl ?_
    refine tw_g6_1N (k := 400) (v := .int (σ 400 1)) X dX11_load_9 _ tw_w416 tw_kc400 rfl ?_
    refine r_icmp_le X dX11_load_12 (tgt := 25) (by decide) ?_ ?_
    ·
      refine r_aload_n X dX11_load_25 rfl 0 rfl ?_
      refine tw_g11_2 (k := 0) (v := .ref (tw_zB z + 400)) X dX11_load_26 _ tw_w481 tw_kc0 rfl ?_
      refine r_iload_n X dX11_load_29 rfl 1 rfl ?_
      refine r_bd (fun r3 hr3 => ?_)
      refine tw_c_X6_read X dX11_load_30 _ tw_w892  hr3 (tw_le hfr rfl) (tw_le hlo rfl) hcs (Nat.le_of_ble_eq_true rfl) trivial ?_
      refine r_istore_n X dX11_load_33 rfl (by decide) (LL := fun v4 => [(2, .int v4), (0, .ref (tw_zB z + 0)), (1, .int x0)]) (fun _ => rfl) (fun v4 => ?_)
      refine r_aload_n X dX11_load_34 rfl 1 rfl ?_
      refine r_aload_n X dX11_load_35 rfl 1 rfl ?_
      refine tw_g11_2 (k := 0) (v := .ref (tw_zB z + 400)) X dX11_load_36 _ tw_w481 tw_kc0 rfl ?_
      refine tw_g6_8N (k := 400) (v := .int (r3.2 400 8)) X dX11_load_39 _ tw_w426 tw_kc400 rfl ?_
      refine tw_s11_6 (k := 0) X dX11_load_42 _ tw_w485 tw_kc0 (fun σ5 => ?_)
      refine r_iload_n X dX11_load_45 rfl 0 rfl ?_
      refine r_if_eq X dX11_load_46 (tgt := 51) (by decide) ?_ ?_
      ·
        refine r_aload_n X dX11_load_51 rfl 1 rfl ?_
        refine tw_g11_1 (k := 0) (v := .ref (tw_zB z + 142)) X dX11_load_52 _ tw_w480 tw_kc0 rfl ?_
        refine r_aload_n X dX11_load_55 rfl 1 rfl ?_
        refine tw_g11_0 (k := 0) (v := .ref (tw_zB z + 1)) X dX11_load_56 _ tw_w479 tw_kc0 rfl ?_
        refine r_bd (fun r6 hr6 => ?_)
        refine tw_c_X4_keep X dX11_load_59 _ tw_w667 tw_kc1 hr6 (tw_le hfr rfl) (tw_le hlo rfl) hcs (Nat.le_of_ble_eq_true rfl) trivial ?_
        refine r_aload_n X dX11_load_62 rfl 1 rfl ?_
        refine tw_g11_0 (k := 0) (v := .ref (tw_zB z + 1)) X dX11_load_63 _ tw_w479 tw_kc0 rfl ?_
        refine r_aload_n X dX11_load_66 rfl 1 rfl ?_
        refine tw_g11_2 (k := 0) (v := .ref (tw_zB z + 400)) X dX11_load_67 _ tw_w481 tw_kc0 rfl ?_
        refine tw_g6_2N (k := 400) (v := .ref (tw_zB z + 403)) X dX11_load_70 _ tw_w419 tw_kc400 rfl ?_
        refine r_bd (fun r7 hr7 => ?_)
        refine tw_c_X2_copyFrom X dX11_load_73 _ tw_w1087 tw_kc1 tw_kc403 hr7 (tw_le hfr rfl) (tw_le hlo rfl) hcs (Nat.le_of_ble_eq_true rfl) trivial ?_
        refine r_aload_n X dX11_load_76 rfl 1 rfl ?_
        refine tw_g11_3 (k := 0) (v := .ref (tw_zB z + 33)) X dX11_load_77 _ tw_w482 tw_kc0 rfl ?_
        refine r_bd (fun r8 hr8 => ?_)
        refine tw_c_X10_renew X dX11_load_80 _ tw_w701  hr8 (tw_le hfr rfl) (tw_le hlo rfl) hcs (Nat.le_of_ble_eq_true rfl) trivial ?_
        refine r_aload_n X dX11_load_83 rfl 1 rfl ?_
        refine tw_g11_0 (k := 0) (v := .ref (tw_zB z + 1)) X dX11_load_84 _ tw_w479 tw_kc0 rfl ?_
        refine tw_g2_9N (k := 1) (v := .ref (tw_zB z + 14)) X dX11_load_87 _ tw_w240 tw_kc1 rfl ?_
        refine tw_g1_0N (k := 14) (v := .int (r8 14 0)) X dX11_load_90 _ tw_w161 tw_kc14 rfl ?_
        exact r_iretX X dX11_load_93 hret hQ rfl
      ·
        refine r_iload_n X dX11_load_49 rfl 0 rfl ?_
        exact r_iretX X dX11_load_50 hret hQ rfl
    ·
      exact tw_Rf.sub [] rfl (hj2 () trivial)
theorem tw_m_X11_load {l : Launch} {B : Nat} {D : va_G} {C : Nat → ClassId} {S : Nat → Nat} {n : Nat} {x0 : Int32} {σ : tw_Sg}  {r : Int32 × tw_Sg} (h : tw_P_X11_load n x0 σ = some (.inl r)) : tw_Met l B D C S yX11_load cX11_load 3 (some .int) ({ frames := 11, cells := 0, slots := 0, locals := 235 } : Room) [.ref (B + 0), .int x0] σ (some (.int r.1)) r.2 := tw_metOfR (rm := ({ frames := 11, cells := 0, slots := 0, locals := 235 } : Room)) (tw_P_X11_load n x0 σ) r h (fun r => (some (.int r.1), r.2)) (by decide +kernel) (Nat.le_of_ble_eq_true rfl) (fun z res el eB eD eC eS hfr hlo hcs X hret hQ hT => tw_b_X11_load  z res el eB eD eC eS hfr hlo hcs X hret hQ hT)
theorem tw_mx_X11_load {l : Launch} {B : Nat} {D : va_G} {C : Nat → ClassId} {S : Nat → Nat} {n : Nat} {x0 : Int32} {σ : tw_Sg}  (hst : l.stackTraces = false) {x : String} (h : tw_P_X11_load n x0 σ = some (.inr x)) : tw_MetX l B D C S yX11_load cX11_load 3 (some .int) ({ frames := 11, cells := 1, slots := 6, locals := 235 } : Room) [.ref (B + 0), .int x0] σ x := tw_metOfX (rm := ({ frames := 11, cells := 0, slots := 0, locals := 235 } : Room)) hst (tw_P_X11_load n x0 σ) x h (fun r => (some (.int r.1), r.2)) (by decide +kernel) (Nat.le_of_ble_eq_true rfl) ⟨by decide, by decide⟩ (fun z res el eB eD eC eS hfr hlo hcs X hret hQ hT => tw_b_X11_load  z res el eB eD eC eS hfr hlo hcs X hret hQ hT)
theorem tw_c_X11_load {ρ : Type} {z : tw_Z} {cc : ByteArray} {own : String} {nL pc : Nat} {σ : tw_Sg} {L : List (Nat × Value)} {st : List Value} {ix : Nat} {n : Nat} {x0 : Int32} (X : tw_X z cc own nL) (d : decode cc pc = .ok (.invokevirtual ix, 3)) (i : Nat) (hi : lw_tbl[i]? = some (.methodLink own ix yX11_load))  {res : ρ} {E : Option ρ} {r : Int32 × tw_Sg} (h : tw_P_X11_load n x0 σ = some (.inl r)) (h1 : 12 ≤ (tw_zR z).frames) (h2 : 257 ≤ (tw_zR z).locals) (hcs : tw_zcells z ≤ (tw_zR z).cells ∧ tw_zslots z ≤ (tw_zR z).slots) (hst : (st.map fun v => v.category).sum ≤ 8) (_ : True) (kk : tw_Rf z res E r.2 (pc + 3) L (.int r.1 :: st)) : tw_Rf z res E σ pc L (.int x0 :: .ref (tw_zB z + 0) :: st) := r_callV (As := [.int x0]) X d (tw_m_X11_load  h) tw_y_X11_load tw_v_X11_load i hi rfl (tw_kd_lt tw_kc0 (by decide)) (tw_E11 tw_kc0) rfl ⟨rfl, rfl, h1, h2⟩ hcs hst rfl kk
theorem tw_cx_X11_load {ρ : Type} {z : tw_Z} {cc : ByteArray} {own : String} {nL pc : Nat} {σ : tw_Sg} {L : List (Nat × Value)} {st : List Value} {ix : Nat} {n : Nat} {x0 : Int32} (X : tw_X z cc own nL) (d : decode cc pc = .ok (.invokevirtual ix, 3)) (i : Nat) (hi : lw_tbl[i]? = some (.methodLink own ix yX11_load))  {res : ρ ⊕ String} {x : String} (h : tw_P_X11_load n x0 σ = some (.inr x)) (h1 : 12 ≤ (tw_zR z).frames) (h2 : 257 ≤ (tw_zR z).locals) (hst : (st.map fun v => v.category).sum ≤ 8) (_ : True) (hT : ∀ y, res = .inr y → tw_To z σ y) : tw_Rf z res (some (Sum.inr x)) σ pc L (.int x0 :: .ref (tw_zB z + 0) :: st) := fun hE => r_callVX (As := [.int x0]) X d (tw_mx_X11_load  (hT x (Option.some.inj hE).symm).1 h) tw_y_X11_load tw_v_X11_load i hi rfl (tw_kd_lt tw_kc0 (by decide)) (tw_E11 tw_kc0) rfl ⟨rfl, rfl, h1, h2⟩ hst rfl (hT x (Option.some.inj hE).symm) hE
