def tw_P_X12_append (n : Nat) (x0 : Int32) (x1 : Int32) (x2 : Int32) (x3 : Int32) (x4 : Int32) (σ : tw_Sg) : Option (Int32 × tw_Sg) :=
tw_lt (tw_up σ 442 0 (0 : Int32)) (fun (σ1 : tw_Sg) =>
if ((σ1 442 2) + (20 : Int32)) ≤ (600 : Int32) then (tw_lt (0 : Int32) (fun (v2 : Int32) =>
tw_lp (fun (k4 : (Int32 × tw_Sg) → Option (Int32 × tw_Sg)) (a3 : Int32 × tw_Sg) =>
if (20 : Int32) ≤ a3.1 then (some ((a3.2 442 2), a3.2))
else (tw_jn (fun (a5 : Int32) =>
tw_lt a5 (fun (v7 : Int32) =>
tw_ck (!decide ((4 : Int32) = 0)) (
tw_ck (tw_ok (a3.2 442 2) (tw_ln 443)) (tw_lt (tw_up a3.2 443 (Int32.toNatClampNeg (a3.2 442 2)) ((v7 >>> (((24 : Int32) - ((8 : Int32) * (a3.1 - a3.1 / (4 : Int32) * (4 : Int32)))) &&& 31)) &&& (255 : Int32))) (fun (σ8 : tw_Sg) =>
tw_lt (tw_up σ8 442 2 ((σ8 442 2) + (1 : Int32))) (fun (σ9 : tw_Sg) =>
tw_lt (a3.1 + (1 : Int32)) (fun (v10 : Int32) =>
k4 (v10, σ9)))))))) (fun (j6 : (Int32) → Option (Int32 × tw_Sg)) =>
if (4 : Int32) ≤ a3.1 then (if (8 : Int32) ≤ a3.1 then (if (12 : Int32) ≤ a3.1 then (if (16 : Int32) ≤ a3.1 then (j6 x4)
else (j6 x3))
else (j6 x2))
else (j6 x1))
else (j6 x0)))) n (v2, σ1)))
else (some ((-1 : Int32), σ1)))
theorem tw_y_X12_append : tw_My yX12_append cX12_append 8 (some .int) 5 := ⟨List.mem_of_getElem? tw_w1354, List.mem_of_getElem? tw_w101, by decide +kernel, by decide +kernel, by decide +kernel⟩
theorem tw_v_X12_append : tw_Mv yX12_append "TreasureWalkModel" := ⟨List.mem_of_getElem? tw_w1352, List.mem_of_getElem? tw_w1353, rfl⟩
set_option maxRecDepth 100000 in
set_option maxHeartbeats 4000000 in
theorem tw_m_X12_append {l : Launch} {B : Nat} {D : va_G} {C : Nat → ClassId} {S : Nat → Nat} {n : Nat} {x0 : Int32} {x1 : Int32} {x2 : Int32} {x3 : Int32} {x4 : Int32} {σ : tw_Sg}  {r : Int32 × tw_Sg} (h : tw_P_X12_append n x0 x1 x2 x3 x4 σ = some r) : tw_Met l B D C S yX12_append cX12_append 8 (some .int) ({ frames := 0, cells := 0, slots := 0, locals := 0 } : Room) [.ref (B + 442), .int x0, .int x1, .int x2, .int x3, .int x4] σ (some (.int r.1)) r.2 := by
  refine tw_metOfP (tw_P_X12_append n x0 x1 x2 x3 x4 σ) r h (fun r => (some (.int r.1), r.2)) (by decide +kernel) (Nat.le_of_ble_eq_true rfl) ⟨rfl, rfl⟩ ?_
  intro z el eB eD eC eS hfr hlo hcs X hret hQ
  subst el eB eD eC eS
  have X : tw_X z cX12_append "TreasureWalkModel" 8 := X
  show tw_Rf z r _ σ 0 [(0, .ref (tw_zB z + 442)), (1, .int x0), (2, .int x1), (3, .int x2), (4, .int x3), (5, .int x4)] []
  unfold tw_P_X12_append
  refine r_aload_n X dX12_append_0 rfl 0 rfl ?_
  refine r_iconst X dX12_append_1 (v := (0 : Int32)) (by decide) ?_
  refine tw_s12_0 (k := 442) X dX12_append_2 _ tw_w1252 tw_kc442 (fun σ1 => ?_)
  refine r_aload_n X dX12_append_5 rfl 0 rfl ?_
  refine tw_g12_2 (k := 442) (v := .int (σ1 442 2)) X dX12_append_6 _ tw_w1254 tw_kc442 rfl ?_
  refine r_bipush X dX12_append_9 (v := (20 : Int32)) (by decide) ?_
  refine r_iadd X dX12_append_11 ?_
  refine r_sipush X dX12_append_12 (v := (600 : Int32)) (by decide) ?_
  refine r_icmp_le X dX12_append_15 (tgt := 20) (by decide) ?_ ?_
  ·
    refine r_iconst X dX12_append_20 (v := (0 : Int32)) (by decide) ?_
    refine r_istore X dX12_append_21 (by decide) (LL := fun v2 => [(6, .int v2), (0, .ref (tw_zB z + 442)), (1, .int x0), (2, .int x1), (3, .int x2), (4, .int x3), (5, .int x4)]) (fun _ => rfl) (fun v2 => ?_)
    refine r_lp (α := Int32 × tw_Sg) (σJ := fun a3 => a3.2) (pcJ := 23) (LJ := fun a3 => [(6, .int a3.1), (0, .ref (tw_zB z + 442)), (1, .int x0), (2, .int x1), (3, .int x2), (4, .int x3), (5, .int x4)]) (stJ := fun a3 => []) (fun k4 hk4 a3 => ?_) n (v2, σ1)
    refine r_iload X dX12_append_23 0 rfl ?_
    refine r_bipush X dX12_append_25 (v := (20 : Int32)) (by decide) ?_
    refine r_icmp_ge X dX12_append_27 (tgt := 120) (by decide) ?_ ?_
    ·
      refine r_aload_n X dX12_append_120 rfl 1 rfl ?_
      refine tw_g12_2 (k := 442) (v := .int (a3.2 442 2)) X dX12_append_121 _ tw_w1254 tw_kc442 rfl ?_
      exact r_iret X dX12_append_124 hret hQ rfl
    ·
      refine r_iload X dX12_append_30 0 rfl ?_
      refine r_iconst X dX12_append_32 (v := (4 : Int32)) (by decide) ?_
      refine r_jn (α := Int32) (σJ := fun a5 => a3.2) (pcJ := 76) (LJ := fun a5 => [(6, .int a3.1), (0, .ref (tw_zB z + 442)), (1, .int x0), (2, .int x1), (3, .int x2), (4, .int x3), (5, .int x4)]) (stJ := fun a5 => [.int a5]) (ok := fun a5 => True) (fun a5 hoka5 => ?_) (fun j6 hj6 => ?_)
      ·
        refine r_istore X dX12_append_76 (by decide) (LL := fun v7 => [(7, .int v7), (6, .int a3.1), (0, .ref (tw_zB z + 442)), (1, .int x0), (2, .int x1), (3, .int x2), (4, .int x3), (5, .int x4)]) (fun _ => rfl) (fun v7 => ?_)
        refine r_aload_n X dX12_append_78 rfl 2 rfl ?_
        refine tw_g12_1 (k := 442) (v := .ref (tw_zB z + 443)) X dX12_append_79 _ tw_w1253 tw_kc442 rfl ?_
        refine r_aload_n X dX12_append_82 rfl 2 rfl ?_
        refine tw_g12_2 (k := 442) (v := .int (a3.2 442 2)) X dX12_append_83 _ tw_w1254 tw_kc442 rfl ?_
        refine r_iload X dX12_append_86 0 rfl ?_
        refine r_bipush X dX12_append_88 (v := (24 : Int32)) (by decide) ?_
        refine r_bipush X dX12_append_90 (v := (8 : Int32)) (by decide) ?_
        refine r_iload X dX12_append_92 1 rfl ?_
        refine r_iconst X dX12_append_94 (v := (4 : Int32)) (by decide) ?_
        refine r_irem X dX12_append_95 ?_
        refine r_imul X dX12_append_96 ?_
        refine r_isub X dX12_append_97 ?_
        refine r_ishr X dX12_append_98 ?_
        refine r_sipush X dX12_append_99 (v := (255 : Int32)) (by decide) ?_
        refine r_iand X dX12_append_102 ?_
        refine r_iast (k := 443) X dX12_append_103 tw_kc443 (fun σ8 => ?_)
        refine r_aload_n X dX12_append_104 rfl 2 rfl ?_
        refine r_dup X dX12_append_105 rfl ?_
        refine tw_g12_2 (k := 442) (v := .int (σ8 442 2)) X dX12_append_106 _ tw_w1254 tw_kc442 rfl ?_
        refine r_iconst X dX12_append_109 (v := (1 : Int32)) (by decide) ?_
        refine r_iadd X dX12_append_110 ?_
        refine tw_s12_2 (k := 442) X dX12_append_111 _ tw_w1254 tw_kc442 (fun σ9 => ?_)
        refine r_iinc X dX12_append_114 1 rfl (v := (1 : Int32)) (by decide) (by decide) (LL := fun v10 => [(6, .int v10), (7, .int v7), (0, .ref (tw_zB z + 442)), (1, .int x0), (2, .int x1), (3, .int x2), (4, .int x3), (5, .int x4)]) (fun _ => rfl) (fun v10 => ?_)
        refine r_goto X dX12_append_117 (tgt := 23) (by decide) ?_
        exact tw_Rf.sub [0, 2, 3, 4, 5, 6, 7] rfl (hk4 (v10, σ9))
      refine r_icmp_ge X dX12_append_33 (tgt := 40) (by decide) ?_ ?_
      ·
        refine r_iload X dX12_append_40 0 rfl ?_
        refine r_bipush X dX12_append_42 (v := (8 : Int32)) (by decide) ?_
        refine r_icmp_ge X dX12_append_44 (tgt := 51) (by decide) ?_ ?_
        ·
          refine r_iload X dX12_append_51 0 rfl ?_
          refine r_bipush X dX12_append_53 (v := (12 : Int32)) (by decide) ?_
          refine r_icmp_ge X dX12_append_55 (tgt := 62) (by decide) ?_ ?_
          ·
            refine r_iload X dX12_append_62 0 rfl ?_
            refine r_bipush X dX12_append_64 (v := (16 : Int32)) (by decide) ?_
            refine r_icmp_ge X dX12_append_66 (tgt := 74) (by decide) ?_ ?_
            ·
              refine r_iload X dX12_append_74 6 rfl ?_
              exact hj6 x4 trivial
            ·
              refine r_iload X dX12_append_69 5 rfl ?_
              refine r_goto X dX12_append_71 (tgt := 76) (by decide) ?_
              exact hj6 x3 trivial
          ·
            refine r_iload_n X dX12_append_58 rfl 4 rfl ?_
            refine r_goto X dX12_append_59 (tgt := 76) (by decide) ?_
            exact hj6 x2 trivial
        ·
          refine r_iload_n X dX12_append_47 rfl 3 rfl ?_
          refine r_goto X dX12_append_48 (tgt := 76) (by decide) ?_
          exact hj6 x1 trivial
      ·
        refine r_iload_n X dX12_append_36 rfl 2 rfl ?_
        refine r_goto X dX12_append_37 (tgt := 76) (by decide) ?_
        exact hj6 x0 trivial
  ·
    refine r_iconst X dX12_append_18 (v := (-1 : Int32)) (by decide) ?_
    exact r_iret X dX12_append_19 hret hQ rfl
theorem tw_c_X12_append {ρ : Type} {z : tw_Z} {cc : ByteArray} {own : String} {nL pc : Nat} {σ : tw_Sg} {L : List (Nat × Value)} {st : List Value} {ix : Nat} {n : Nat} {x0 : Int32} {x1 : Int32} {x2 : Int32} {x3 : Int32} {x4 : Int32} (X : tw_X z cc own nL) (d : decode cc pc = .ok (.invokevirtual ix, 3)) (i : Nat) (hi : lw_tbl[i]? = some (.methodLink own ix yX12_append))  {res : ρ} {E : Option ρ} {r : Int32 × tw_Sg} (h : tw_P_X12_append n x0 x1 x2 x3 x4 σ = some r) (h1 : 1 ≤ (tw_zR z).frames) (h2 : 27 ≤ (tw_zR z).locals) (hcs : tw_zcells z ≤ (tw_zR z).cells ∧ tw_zslots z ≤ (tw_zR z).slots) (hst : (st.map fun v => v.category).sum ≤ 8) (_ : True) (kk : tw_Rf z res E r.2 (pc + 3) L (.int r.1 :: st)) : tw_Rf z res E σ pc L (.int x4 :: .int x3 :: .int x2 :: .int x1 :: .int x0 :: .ref (tw_zB z + 442) :: st) := r_callV (As := [.int x0, .int x1, .int x2, .int x3, .int x4]) X d (tw_m_X12_append  h) tw_y_X12_append tw_v_X12_append i hi rfl (tw_kd_lt tw_kc442 (by decide)) (tw_E12 tw_kc442) rfl ⟨rfl, rfl, h1, h2⟩ hcs hst rfl kk
def tw_P_X12_byteAt (x0 : Int32) (σ : tw_Sg) : Option (Int32) :=
tw_jn (fun (a1 : Int32) =>
some a1) (fun (j2 : (Int32) → Option (Int32)) =>
if (σ 442 3) ≤ x0 then (j2 (-1 : Int32))
else (tw_ck (tw_ok x0 (tw_ln 443)) (
j2 (σ 443 (Int32.toNatClampNeg x0)))))
theorem tw_y_X12_byteAt : tw_My yX12_byteAt cX12_byteAt 2 (some .int) 1 := ⟨List.mem_of_getElem? tw_w1382, List.mem_of_getElem? tw_w101, by decide +kernel, by decide +kernel, by decide +kernel⟩
theorem tw_v_X12_byteAt : tw_Mv yX12_byteAt "TreasureWalkModel" := ⟨List.mem_of_getElem? tw_w1381, List.mem_of_getElem? tw_w41, rfl⟩
set_option maxRecDepth 100000 in
set_option maxHeartbeats 4000000 in
theorem tw_m_X12_byteAt {l : Launch} {B : Nat} {D : va_G} {C : Nat → ClassId} {S : Nat → Nat} {x0 : Int32} {σ : tw_Sg}  {r : Int32} (h : tw_P_X12_byteAt x0 σ = some r) : tw_Met l B D C S yX12_byteAt cX12_byteAt 2 (some .int) ({ frames := 0, cells := 0, slots := 0, locals := 0 } : Room) [.ref (B + 442), .int x0] σ (some (.int r)) σ := by
  refine tw_metOfP (tw_P_X12_byteAt x0 σ) r h (fun r => (some (.int r), σ)) (by decide +kernel) (Nat.le_of_ble_eq_true rfl) ⟨rfl, rfl⟩ ?_
  intro z el eB eD eC eS hfr hlo hcs X hret hQ
  subst el eB eD eC eS
  have X : tw_X z cX12_byteAt "TreasureWalkModel" 2 := X
  show tw_Rf z r _ σ 0 [(0, .ref (tw_zB z + 442)), (1, .int x0)] []
  unfold tw_P_X12_byteAt
  refine r_iload_n X dX12_byteAt_0 rfl 1 rfl ?_
  refine r_aload_n X dX12_byteAt_1 rfl 0 rfl ?_
  refine tw_g12_3 (k := 442) (v := .int (σ 442 3)) X dX12_byteAt_2 _ tw_w1255 tw_kc442 rfl ?_
  refine r_jn (α := Int32) (σJ := fun a1 => σ) (pcJ := 18) (LJ := fun a1 => []) (stJ := fun a1 => [.int a1]) (ok := fun a1 => True) (fun a1 hoka1 => ?_) (fun j2 hj2 => ?_)
  ·
    exact r_iret X dX12_byteAt_18 hret hQ rfl
  refine r_icmp_ge X dX12_byteAt_5 (tgt := 17) (by decide) ?_ ?_
  ·
    refine r_iconst X dX12_byteAt_17 (v := (-1 : Int32)) (by decide) ?_
    exact tw_Rf.sub [] rfl (hj2 (-1 : Int32) trivial)
  ·
    refine r_aload_n X dX12_byteAt_8 rfl 0 rfl ?_
    refine tw_g12_1 (k := 442) (v := .ref (tw_zB z + 443)) X dX12_byteAt_9 _ tw_w1253 tw_kc442 rfl ?_
    refine r_iload_n X dX12_byteAt_12 rfl 1 rfl ?_
    refine r_iald (k := 443) X dX12_byteAt_13 tw_kc443 ?_
    refine r_goto X dX12_byteAt_14 (tgt := 18) (by decide) ?_
    exact tw_Rf.sub [] rfl (hj2 (σ 443 (Int32.toNatClampNeg x0)) trivial)
theorem tw_c_X12_byteAt {ρ : Type} {z : tw_Z} {cc : ByteArray} {own : String} {nL pc : Nat} {σ : tw_Sg} {L : List (Nat × Value)} {st : List Value} {ix : Nat} {x0 : Int32} (X : tw_X z cc own nL) (d : decode cc pc = .ok (.invokevirtual ix, 3)) (i : Nat) (hi : lw_tbl[i]? = some (.methodLink own ix yX12_byteAt))  {res : ρ} {E : Option ρ} {r : Int32} (h : tw_P_X12_byteAt x0 σ = some r) (h1 : 1 ≤ (tw_zR z).frames) (h2 : 21 ≤ (tw_zR z).locals) (hcs : tw_zcells z ≤ (tw_zR z).cells ∧ tw_zslots z ≤ (tw_zR z).slots) (hst : (st.map fun v => v.category).sum ≤ 8) (_ : True) (kk : tw_Rf z res E σ (pc + 3) L (.int r :: st)) : tw_Rf z res E σ pc L (.int x0 :: .ref (tw_zB z + 442) :: st) := r_callV (As := [.int x0]) X d (tw_m_X12_byteAt  h) tw_y_X12_byteAt tw_v_X12_byteAt i hi rfl (tw_kd_lt tw_kc442 (by decide)) (tw_E12 tw_kc442) rfl ⟨rfl, rfl, h1, h2⟩ hcs hst rfl kk
def tw_P_X12_ahead (n : Nat)  (σ : tw_Sg) : Option (Int32 × tw_Sg) :=
tw_lp (fun (k2 : (tw_Sg) → Option (Int32 × tw_Sg)) (a1 : tw_Sg) =>
tw_bd (tw_P_X12_byteAt (a1 442 4) a1) (fun r3 =>
if ¬ r3 = (32 : Int32) then (tw_bd (tw_P_X12_byteAt (a1 442 4) a1) (fun r4 =>
some (r4, a1)))
else (tw_lt (tw_up a1 442 4 ((a1 442 4) + (1 : Int32))) (fun (σ5 : tw_Sg) =>
k2 σ5)))) n σ
theorem tw_y_X12_ahead : tw_My yX12_ahead cX12_ahead 1 (some .int) 0 := ⟨List.mem_of_getElem? tw_w1378, List.mem_of_getElem? tw_w101, by decide +kernel, by decide +kernel, by decide +kernel⟩
theorem tw_v_X12_ahead : tw_Mv yX12_ahead "TreasureWalkModel" := ⟨List.mem_of_getElem? tw_w1377, List.mem_of_getElem? tw_w40, rfl⟩
set_option maxRecDepth 100000 in
set_option maxHeartbeats 4000000 in
theorem tw_m_X12_ahead {l : Launch} {B : Nat} {D : va_G} {C : Nat → ClassId} {S : Nat → Nat} {n : Nat}  {σ : tw_Sg}  {r : Int32 × tw_Sg} (h : tw_P_X12_ahead n σ = some r) : tw_Met l B D C S yX12_ahead cX12_ahead 1 (some .int) ({ frames := 1, cells := 0, slots := 0, locals := 21 } : Room) [.ref (B + 442)] σ (some (.int r.1)) r.2 := by
  refine tw_metOfP (tw_P_X12_ahead n σ) r h (fun r => (some (.int r.1), r.2)) (by decide +kernel) (Nat.le_of_ble_eq_true rfl) ⟨rfl, rfl⟩ ?_
  intro z el eB eD eC eS hfr hlo hcs X hret hQ
  subst el eB eD eC eS
  have X : tw_X z cX12_ahead "TreasureWalkModel" 1 := X
  show tw_Rf z r _ σ 0 [(0, .ref (tw_zB z + 442))] []
  unfold tw_P_X12_ahead
  refine r_lp (α := tw_Sg) (σJ := fun a1 => a1) (pcJ := 0) (LJ := fun a1 => [(0, .ref (tw_zB z + 442))]) (stJ := fun a1 => []) (fun k2 hk2 a1 => ?_) n σ
  refine r_aload_n X dX12_ahead_0 rfl 0 rfl ?_
  refine r_aload_n X dX12_ahead_1 rfl 0 rfl ?_
  refine tw_g12_4 (k := 442) (v := .int (a1 442 4)) X dX12_ahead_2 _ tw_w1256 tw_kc442 rfl ?_
  refine r_bd (fun r3 hr3 => ?_)
  refine tw_c_X12_byteAt X dX12_ahead_5 _ tw_w1379  hr3 (tw_le hfr rfl) (tw_le hlo rfl) hcs (Nat.le_of_ble_eq_true rfl) trivial ?_
  refine r_bipush X dX12_ahead_8 (v := (32 : Int32)) (by decide) ?_
  refine r_icmp_ne X dX12_ahead_10 (tgt := 26) (by decide) ?_ ?_
  ·
    refine r_aload_n X dX12_ahead_26 rfl 0 rfl ?_
    refine r_aload_n X dX12_ahead_27 rfl 0 rfl ?_
    refine tw_g12_4 (k := 442) (v := .int (a1 442 4)) X dX12_ahead_28 _ tw_w1256 tw_kc442 rfl ?_
    refine r_bd (fun r4 hr4 => ?_)
    refine tw_c_X12_byteAt X dX12_ahead_31 _ tw_w1379  hr4 (tw_le hfr rfl) (tw_le hlo rfl) hcs (Nat.le_of_ble_eq_true rfl) trivial ?_
    exact r_iret X dX12_ahead_34 hret hQ rfl
  ·
    refine r_aload_n X dX12_ahead_13 rfl 0 rfl ?_
    refine r_dup X dX12_ahead_14 rfl ?_
    refine tw_g12_4 (k := 442) (v := .int (a1 442 4)) X dX12_ahead_15 _ tw_w1256 tw_kc442 rfl ?_
    refine r_iconst X dX12_ahead_18 (v := (1 : Int32)) (by decide) ?_
    refine r_iadd X dX12_ahead_19 ?_
    refine tw_s12_4 (k := 442) X dX12_ahead_20 _ tw_w1256 tw_kc442 (fun σ5 => ?_)
    refine r_goto X dX12_ahead_23 (tgt := 0) (by decide) ?_
    exact hk2 σ5
theorem tw_c_X12_ahead {ρ : Type} {z : tw_Z} {cc : ByteArray} {own : String} {nL pc : Nat} {σ : tw_Sg} {L : List (Nat × Value)} {st : List Value} {ix : Nat} {n : Nat}  (X : tw_X z cc own nL) (d : decode cc pc = .ok (.invokevirtual ix, 3)) (i : Nat) (hi : lw_tbl[i]? = some (.methodLink own ix yX12_ahead))  {res : ρ} {E : Option ρ} {r : Int32 × tw_Sg} (h : tw_P_X12_ahead n σ = some r) (h1 : 2 ≤ (tw_zR z).frames) (h2 : 41 ≤ (tw_zR z).locals) (hcs : tw_zcells z ≤ (tw_zR z).cells ∧ tw_zslots z ≤ (tw_zR z).slots) (hst : (st.map fun v => v.category).sum ≤ 8) (_ : True) (kk : tw_Rf z res E r.2 (pc + 3) L (.int r.1 :: st)) : tw_Rf z res E σ pc L (.ref (tw_zB z + 442) :: st) := r_callV (As := []) X d (tw_m_X12_ahead  h) tw_y_X12_ahead tw_v_X12_ahead i hi rfl (tw_kd_lt tw_kc442 (by decide)) (tw_E12 tw_kc442) rfl ⟨rfl, rfl, h1, h2⟩ hcs hst rfl kk
def tw_P_X12_isGood  (σ : tw_Sg) : Option (Int32) :=
tw_jn (fun (a1 : Int32) =>
tw_ck (tw_01 a1) (some a1)) (fun (j2 : (Int32) → Option (Int32)) =>
if ¬ (σ 442 5) = 0 then (j2 (0 : Int32))
else (j2 (1 : Int32)))
theorem tw_y_X12_isGood : tw_My yX12_isGood cX12_isGood 1 (some .boolean) 0 := ⟨List.mem_of_getElem? tw_w1374, List.mem_of_getElem? tw_w101, by decide +kernel, by decide +kernel, by decide +kernel⟩
theorem tw_v_X12_isGood : tw_Mv yX12_isGood "TreasureWalkModel" := ⟨List.mem_of_getElem? tw_w1373, List.mem_of_getElem? tw_w39, rfl⟩
set_option maxRecDepth 100000 in
set_option maxHeartbeats 4000000 in
theorem tw_m_X12_isGood {l : Launch} {B : Nat} {D : va_G} {C : Nat → ClassId} {S : Nat → Nat}  {σ : tw_Sg}  {r : Int32} (h : tw_P_X12_isGood σ = some r) : tw_Met l B D C S yX12_isGood cX12_isGood 1 (some .boolean) ({ frames := 0, cells := 0, slots := 0, locals := 0 } : Room) [.ref (B + 442)] σ (some (.int r)) σ := by
  refine tw_metOfP (tw_P_X12_isGood σ) r h (fun r => (some (.int r), σ)) (by decide +kernel) (Nat.le_of_ble_eq_true rfl) ⟨rfl, rfl⟩ ?_
  intro z el eB eD eC eS hfr hlo hcs X hret hQ
  subst el eB eD eC eS
  have X : tw_X z cX12_isGood "TreasureWalkModel" 1 := X
  show tw_Rf z r _ σ 0 [(0, .ref (tw_zB z + 442))] []
  unfold tw_P_X12_isGood
  refine r_aload_n X dX12_isGood_0 rfl 0 rfl ?_
  refine tw_g12_5 (k := 442) (v := .int (σ 442 5)) X dX12_isGood_1 _ tw_w1257 tw_kc442 rfl ?_
  refine r_jn (α := Int32) (σJ := fun a1 => σ) (pcJ := 12) (LJ := fun a1 => []) (stJ := fun a1 => [.int a1]) (ok := fun a1 => True) (fun a1 hoka1 => ?_) (fun j2 hj2 => ?_)
  ·
    exact r_zret X dX12_isGood_12 hret hQ rfl
  refine r_if_ne X dX12_isGood_4 (tgt := 11) (by decide) ?_ ?_
  ·
    refine r_iconst X dX12_isGood_11 (v := (0 : Int32)) (by decide) ?_
    exact tw_Rf.sub [] rfl (hj2 (0 : Int32) trivial)
  ·
    refine r_iconst X dX12_isGood_7 (v := (1 : Int32)) (by decide) ?_
    refine r_goto X dX12_isGood_8 (tgt := 12) (by decide) ?_
    exact tw_Rf.sub [] rfl (hj2 (1 : Int32) trivial)
theorem tw_c_X12_isGood {ρ : Type} {z : tw_Z} {cc : ByteArray} {own : String} {nL pc : Nat} {σ : tw_Sg} {L : List (Nat × Value)} {st : List Value} {ix : Nat}  (X : tw_X z cc own nL) (d : decode cc pc = .ok (.invokevirtual ix, 3)) (i : Nat) (hi : lw_tbl[i]? = some (.methodLink own ix yX12_isGood))  {res : ρ} {E : Option ρ} {r : Int32} (h : tw_P_X12_isGood σ = some r) (h1 : 1 ≤ (tw_zR z).frames) (h2 : 20 ≤ (tw_zR z).locals) (hcs : tw_zcells z ≤ (tw_zR z).cells ∧ tw_zslots z ≤ (tw_zR z).slots) (hst : (st.map fun v => v.category).sum ≤ 8) (_ : True) (kk : tw_Rf z res E σ (pc + 3) L (.int r :: st)) : tw_Rf z res E σ pc L (.ref (tw_zB z + 442) :: st) := r_callV (As := []) X d (tw_m_X12_isGood  h) tw_y_X12_isGood tw_v_X12_isGood i hi rfl (tw_kd_lt tw_kc442 (by decide)) (tw_E12 tw_kc442) rfl ⟨rfl, rfl, h1, h2⟩ hcs hst rfl kk
def tw_P_X12_report (x0 : Int32) (x1 : Int32) (σ : tw_Sg) : Option (tw_Sg) :=
if (σ 442 5) = 0 then (tw_lt (tw_up σ 442 5 x0) (fun (σ1 : tw_Sg) =>
tw_lt (tw_up σ1 442 6 x1) (fun (σ2 : tw_Sg) =>
some σ2)))
else (some σ)
theorem tw_y_X12_report : tw_My yX12_report cX12_report 3 none 2 := ⟨List.mem_of_getElem? tw_w1388, List.mem_of_getElem? tw_w101, by decide +kernel, by decide +kernel, by decide +kernel⟩
theorem tw_v_X12_report : tw_Mv yX12_report "TreasureWalkModel" := ⟨List.mem_of_getElem? tw_w1387, List.mem_of_getElem? tw_w42, rfl⟩
set_option maxRecDepth 100000 in
set_option maxHeartbeats 4000000 in
theorem tw_m_X12_report {l : Launch} {B : Nat} {D : va_G} {C : Nat → ClassId} {S : Nat → Nat} {x0 : Int32} {x1 : Int32} {σ : tw_Sg}  {r : tw_Sg} (h : tw_P_X12_report x0 x1 σ = some r) : tw_Met l B D C S yX12_report cX12_report 3 none ({ frames := 0, cells := 0, slots := 0, locals := 0 } : Room) [.ref (B + 442), .int x0, .int x1] σ (none) r := by
  refine tw_metOfP (tw_P_X12_report x0 x1 σ) r h (fun r => (none, r)) (by decide +kernel) (Nat.le_of_ble_eq_true rfl) ⟨rfl, rfl⟩ ?_
  intro z el eB eD eC eS hfr hlo hcs X hret hQ
  subst el eB eD eC eS
  have X : tw_X z cX12_report "TreasureWalkModel" 3 := X
  show tw_Rf z r _ σ 0 [(0, .ref (tw_zB z + 442)), (1, .int x0), (2, .int x1)] []
  unfold tw_P_X12_report
  refine r_aload_n X dX12_report_0 rfl 0 rfl ?_
  refine tw_g12_5 (k := 442) (v := .int (σ 442 5)) X dX12_report_1 _ tw_w1257 tw_kc442 rfl ?_
  refine r_if_eq X dX12_report_4 (tgt := 8) (by decide) ?_ ?_
  ·
    refine r_aload_n X dX12_report_8 rfl 0 rfl ?_
    refine r_iload_n X dX12_report_9 rfl 1 rfl ?_
    refine tw_s12_5 (k := 442) X dX12_report_10 _ tw_w1257 tw_kc442 (fun σ1 => ?_)
    refine r_aload_n X dX12_report_13 rfl 0 rfl ?_
    refine r_iload_n X dX12_report_14 rfl 2 rfl ?_
    refine tw_s12_6 (k := 442) X dX12_report_15 _ tw_w1258 tw_kc442 (fun σ2 => ?_)
    exact r_vret X dX12_report_18 hret hQ rfl
  ·
    exact r_vret X dX12_report_7 hret hQ rfl
theorem tw_c_X12_report {ρ : Type} {z : tw_Z} {cc : ByteArray} {own : String} {nL pc : Nat} {σ : tw_Sg} {L : List (Nat × Value)} {st : List Value} {ix : Nat} {x0 : Int32} {x1 : Int32} (X : tw_X z cc own nL) (d : decode cc pc = .ok (.invokevirtual ix, 3)) (i : Nat) (hi : lw_tbl[i]? = some (.methodLink own ix yX12_report))  {res : ρ} {E : Option ρ} {r : tw_Sg} (h : tw_P_X12_report x0 x1 σ = some r) (h1 : 1 ≤ (tw_zR z).frames) (h2 : 22 ≤ (tw_zR z).locals) (hcs : tw_zcells z ≤ (tw_zR z).cells ∧ tw_zslots z ≤ (tw_zR z).slots) (hst : (st.map fun v => v.category).sum ≤ 8) (_ : True) (kk : tw_Rf z res E r (pc + 3) L (st)) : tw_Rf z res E σ pc L (.int x1 :: .int x0 :: .ref (tw_zB z + 442) :: st) := r_callV (As := [.int x0, .int x1]) X d (tw_m_X12_report  h) tw_y_X12_report tw_v_X12_report i hi rfl (tw_kd_lt tw_kc442 (by decide)) (tw_E12 tw_kc442) rfl ⟨rfl, rfl, h1, h2⟩ hcs hst rfl kk
def tw_P_X12_isDigit (x0 : Int32) (σ : tw_Sg) : Option (Int32) :=
tw_bd (tw_P_X12_in x0 (48 : Int32) (57 : Int32) σ) (fun r1 =>
tw_ck (tw_01 r1) (some r1))
theorem tw_y_X12_isDigit : tw_My yX12_isDigit cX12_isDigit 1 (some .boolean) 1 := ⟨List.mem_of_getElem? tw_w1395, List.mem_of_getElem? tw_w101, by decide +kernel, by decide +kernel, by decide +kernel⟩
theorem tw_v_X12_isDigit : tw_Ms yX12_isDigit := List.mem_of_getElem? tw_w1394
set_option maxRecDepth 100000 in
set_option maxHeartbeats 4000000 in
theorem tw_m_X12_isDigit {l : Launch} {B : Nat} {D : va_G} {C : Nat → ClassId} {S : Nat → Nat} {x0 : Int32} {σ : tw_Sg}  {r : Int32} (h : tw_P_X12_isDigit x0 σ = some r) : tw_Met l B D C S yX12_isDigit cX12_isDigit 1 (some .boolean) ({ frames := 1, cells := 0, slots := 0, locals := 22 } : Room) [.int x0] σ (some (.int r)) σ := by
  refine tw_metOfP (tw_P_X12_isDigit x0 σ) r h (fun r => (some (.int r), σ)) (by decide +kernel) (Nat.le_of_ble_eq_true rfl) ⟨rfl, rfl⟩ ?_
  intro z el eB eD eC eS hfr hlo hcs X hret hQ
  subst el eB eD eC eS
  have X : tw_X z cX12_isDigit "TreasureWalkModel" 1 := X
  show tw_Rf z r _ σ 0 [(0, .int x0)] []
  unfold tw_P_X12_isDigit
  refine r_iload_n X dX12_isDigit_0 rfl 0 rfl ?_
  refine r_bipush X dX12_isDigit_1 (v := (48 : Int32)) (by decide) ?_
  refine r_bipush X dX12_isDigit_3 (v := (57 : Int32)) (by decide) ?_
  refine r_bd (fun r1 hr1 => ?_)
  refine tw_c_X12_in X dX12_isDigit_5 _ tw_w1359  hr1 (tw_le hfr rfl) (tw_le hlo rfl) hcs (Nat.le_of_ble_eq_true rfl) trivial ?_
  exact r_zret X dX12_isDigit_8 hret hQ rfl
theorem tw_c_X12_isDigit {ρ : Type} {z : tw_Z} {cc : ByteArray} {own : String} {nL pc : Nat} {σ : tw_Sg} {L : List (Nat × Value)} {st : List Value} {ix : Nat} {x0 : Int32} (X : tw_X z cc own nL) (d : decode cc pc = .ok (.invokestatic ix, 3)) (i : Nat) (hi : lw_tbl[i]? = some (.methodLink own ix yX12_isDigit))  {res : ρ} {E : Option ρ} {r : Int32} (h : tw_P_X12_isDigit x0 σ = some r) (h1 : 2 ≤ (tw_zR z).frames) (h2 : 42 ≤ (tw_zR z).locals) (hcs : tw_zcells z ≤ (tw_zR z).cells ∧ tw_zslots z ≤ (tw_zR z).slots) (hst : (st.map fun v => v.category).sum ≤ 8) (_ : True) (kk : tw_Rf z res E σ (pc + 3) L (.int r :: st)) : tw_Rf z res E σ pc L (.int x0 :: st) := r_callS (As := [.int x0]) X d (tw_m_X12_isDigit  h) tw_y_X12_isDigit tw_v_X12_isDigit i hi rfl ⟨rfl, rfl, h1, h2⟩ hcs hst rfl kk
def tw_P_X12_takeWord (n : Nat) (w0 : Nat) (σ : tw_Sg) : Option (Int32 × tw_Sg) :=
tw_bd (tw_P_X12_isGood σ) (fun r1 =>
if ¬ r1 = 0 then (tw_bd (tw_P_X12_ahead n σ) (fun r2 =>
tw_lt (0 : Int32) (fun (v3 : Int32) =>
tw_lp (fun (k5 : (Int32) → Option (Int32 × tw_Sg)) (a4 : Int32) =>
tw_jn (fun (a6 : Unit) =>
tw_jn (fun (a8 : Unit) =>
tw_ck (tw_01 (0 : Int32)) (some ((0 : Int32), r2.2))) (fun (j9 : (Unit) → Option (Int32 × tw_Sg)) =>
if a4 < (Int32.ofNat (tw_len.getD w0 0)) then (j9 ())
else (tw_bd (tw_P_X12_byteAt ((r2.2 442 4) + a4) r2.2) (fun r10 =>
tw_bd (tw_P_X12_in r10 (97 : Int32) (122 : Int32) r2.2) (fun r11 =>
if r11 = 0 then (tw_lt (tw_up r2.2 442 4 ((r2.2 442 4) + a4)) (fun (σ12 : tw_Sg) =>
tw_ck (tw_01 (1 : Int32)) (some ((1 : Int32), σ12))))
else (j9 ())))))) (fun (j7 : (Unit) → Option (Int32 × tw_Sg)) =>
if (Int32.ofNat (tw_len.getD w0 0)) ≤ a4 then (j7 ())
else (tw_bd (tw_P_X12_byteAt ((r2.2 442 4) + a4) r2.2) (fun r13 =>
tw_ck (tw_ok a4 (tw_len.getD w0 0)) (
if ¬ r13 = ((tw_byt.getD w0 []).getD (Int32.toNatClampNeg a4) 0) then (j7 ())
else (tw_lt (a4 + (1 : Int32)) (fun (v14 : Int32) =>
k5 v14))))))) n v3)))
else (tw_ck (tw_01 (0 : Int32)) (some ((0 : Int32), σ))))
theorem tw_y_X12_takeWord : tw_My yX12_takeWord cX12_takeWord 3 (some .boolean) 1 := ⟨List.mem_of_getElem? tw_w1370, List.mem_of_getElem? tw_w101, by decide +kernel, by decide +kernel, by decide +kernel⟩
theorem tw_v_X12_takeWord : tw_Mv yX12_takeWord "TreasureWalkModel" := ⟨List.mem_of_getElem? tw_w1369, List.mem_of_getElem? tw_w38, rfl⟩
set_option maxRecDepth 100000 in
set_option maxHeartbeats 4000000 in
theorem tw_m_X12_takeWord {l : Launch} {B : Nat} {D : va_G} {C : Nat → ClassId} {S : Nat → Nat} {n : Nat} {w0 : Nat} {σ : tw_Sg} (hw0 : w0 < 21) {r : Int32 × tw_Sg} (h : tw_P_X12_takeWord n w0 σ = some r) : tw_Met l B D C S yX12_takeWord cX12_takeWord 3 (some .boolean) ({ frames := 6, cells := 0, slots := 0, locals := 120 } : Room) [.ref (B + 442), .ref (S w0)] σ (some (.int r.1)) r.2 := by
  refine tw_metOfP (tw_P_X12_takeWord n w0 σ) r h (fun r => (some (.int r.1), r.2)) (by decide +kernel) (Nat.le_of_ble_eq_true rfl) ⟨rfl, rfl⟩ ?_
  intro z el eB eD eC eS hfr hlo hcs X hret hQ
  subst el eB eD eC eS
  have X : tw_X z cX12_takeWord "TreasureWalkModel" 3 := X
  show tw_Rf z r _ σ 0 [(0, .ref (tw_zB z + 442)), (1, .ref (tw_zS z w0))] []
  unfold tw_P_X12_takeWord
  refine r_aload_n X dX12_takeWord_0 rfl 0 rfl ?_
  refine r_bd (fun r1 hr1 => ?_)
  refine tw_c_X12_isGood X dX12_takeWord_1 _ tw_w1371  hr1 (tw_le hfr rfl) (tw_le hlo rfl) hcs (Nat.le_of_ble_eq_true rfl) trivial ?_
  refine r_if_ne X dX12_takeWord_4 (tgt := 9) (by decide) ?_ ?_
  ·
    refine r_aload_n X dX12_takeWord_9 rfl 0 rfl ?_
    refine r_bd (fun r2 hr2 => ?_)
    refine tw_c_X12_ahead X dX12_takeWord_10 _ tw_w1375  hr2 (tw_le hfr rfl) (tw_le hlo rfl) hcs (Nat.le_of_ble_eq_true rfl) trivial ?_
    refine r_pop X dX12_takeWord_13 rfl ?_
    refine r_iconst X dX12_takeWord_14 (v := (0 : Int32)) (by decide) ?_
    refine r_istore_n X dX12_takeWord_15 rfl (by decide) (LL := fun v3 => [(2, .int v3), (0, .ref (tw_zB z + 442)), (1, .ref (tw_zS z w0))]) (fun _ => rfl) (fun v3 => ?_)
    refine r_lp (α := Int32) (σJ := fun a4 => r2.2) (pcJ := 16) (LJ := fun a4 => [(2, .int a4), (0, .ref (tw_zB z + 442)), (1, .ref (tw_zS z w0))]) (stJ := fun a4 => []) (fun k5 hk5 a4 => ?_) n v3
    refine r_iload_n X dX12_takeWord_16 rfl 0 rfl ?_
    refine r_aload_n X dX12_takeWord_17 rfl 2 rfl ?_
    refine tw_strlen X dX12_takeWord_18 _ tw_w1383 hw0 (tw_le hfr rfl) (tw_le hlo rfl) hcs (Nat.le_of_ble_eq_true rfl) ?_
    refine r_jn (α := Unit) (σJ := fun a6 => r2.2) (pcJ := 48) (LJ := fun a6 => [(2, .int a4), (0, .ref (tw_zB z + 442)), (1, .ref (tw_zS z w0))]) (stJ := fun a6 => []) (ok := fun a6 => True) (fun a6 hoka6 => ?_) (fun j7 hj7 => ?_)
    ·
      refine r_iload_n X dX12_takeWord_48 rfl 0 rfl ?_
      refine r_aload_n X dX12_takeWord_49 rfl 2 rfl ?_
      refine tw_strlen X dX12_takeWord_50 _ tw_w1383 hw0 (tw_le hfr rfl) (tw_le hlo rfl) hcs (Nat.le_of_ble_eq_true rfl) ?_
      refine r_jn (α := Unit) (σJ := fun a8 => r2.2) (pcJ := 76) (LJ := fun a8 => []) (stJ := fun a8 => []) (ok := fun a8 => True) (fun a8 hoka8 => ?_) (fun j9 hj9 => ?_)
      ·
        refine r_iconst X dX12_takeWord_76 (v := (0 : Int32)) (by decide) ?_
        exact r_zret X dX12_takeWord_77 hret hQ rfl
      refine r_icmp_lt X dX12_takeWord_53 (tgt := 76) (by decide) ?_ ?_
      ·
        exact tw_Rf.sub [] rfl (hj9 () trivial)
      ·
        refine r_aload_n X dX12_takeWord_56 rfl 1 rfl ?_
        refine r_aload_n X dX12_takeWord_57 rfl 1 rfl ?_
        refine tw_g12_4 (k := 442) (v := .int (r2.2 442 4)) X dX12_takeWord_58 _ tw_w1256 tw_kc442 rfl ?_
        refine r_iload_n X dX12_takeWord_61 rfl 0 rfl ?_
        refine r_iadd X dX12_takeWord_62 ?_
        refine r_bd (fun r10 hr10 => ?_)
        refine tw_c_X12_byteAt X dX12_takeWord_63 _ tw_w1379  hr10 (tw_le hfr rfl) (tw_le hlo rfl) hcs (Nat.le_of_ble_eq_true rfl) trivial ?_
        refine r_bipush X dX12_takeWord_66 (v := (97 : Int32)) (by decide) ?_
        refine r_bipush X dX12_takeWord_68 (v := (122 : Int32)) (by decide) ?_
        refine r_bd (fun r11 hr11 => ?_)
        refine tw_c_X12_in X dX12_takeWord_70 _ tw_w1359  hr11 (tw_le hfr rfl) (tw_le hlo rfl) hcs (Nat.le_of_ble_eq_true rfl) trivial ?_
        refine r_if_eq X dX12_takeWord_73 (tgt := 78) (by decide) ?_ ?_
        ·
          refine r_aload_n X dX12_takeWord_78 rfl 1 rfl ?_
          refine r_dup X dX12_takeWord_79 rfl ?_
          refine tw_g12_4 (k := 442) (v := .int (r2.2 442 4)) X dX12_takeWord_80 _ tw_w1256 tw_kc442 rfl ?_
          refine r_iload_n X dX12_takeWord_83 rfl 0 rfl ?_
          refine r_iadd X dX12_takeWord_84 ?_
          refine tw_s12_4 (k := 442) X dX12_takeWord_85 _ tw_w1256 tw_kc442 (fun σ12 => ?_)
          refine r_iconst X dX12_takeWord_88 (v := (1 : Int32)) (by decide) ?_
          exact r_zret X dX12_takeWord_89 hret hQ rfl
        ·
          exact tw_Rf.sub [] rfl (hj9 () trivial)
    refine r_icmp_ge X dX12_takeWord_21 (tgt := 48) (by decide) ?_ ?_
    ·
      exact hj7 () trivial
    ·
      refine r_aload_n X dX12_takeWord_24 rfl 1 rfl ?_
      refine r_aload_n X dX12_takeWord_25 rfl 1 rfl ?_
      refine tw_g12_4 (k := 442) (v := .int (r2.2 442 4)) X dX12_takeWord_26 _ tw_w1256 tw_kc442 rfl ?_
      refine r_iload_n X dX12_takeWord_29 rfl 0 rfl ?_
      refine r_iadd X dX12_takeWord_30 ?_
      refine r_bd (fun r13 hr13 => ?_)
      refine tw_c_X12_byteAt X dX12_takeWord_31 _ tw_w1379  hr13 (tw_le hfr rfl) (tw_le hlo rfl) hcs (Nat.le_of_ble_eq_true rfl) trivial ?_
      refine r_aload_n X dX12_takeWord_34 rfl 2 rfl ?_
      refine r_iload_n X dX12_takeWord_35 rfl 0 rfl ?_
      refine tw_strchar X dX12_takeWord_36 _ tw_w1384 hw0 (tw_le hfr rfl) (tw_le hlo rfl) hcs (Nat.le_of_ble_eq_true rfl) ?_
      refine r_icmp_ne X dX12_takeWord_39 (tgt := 48) (by decide) ?_ ?_
      ·
        exact hj7 () trivial
      ·
        refine r_iinc X dX12_takeWord_42 0 rfl (v := (1 : Int32)) (by decide) (by decide) (LL := fun v14 => [(2, .int v14), (0, .ref (tw_zB z + 442)), (1, .ref (tw_zS z w0))]) (fun _ => rfl) (fun v14 => ?_)
        refine r_goto X dX12_takeWord_45 (tgt := 16) (by decide) ?_
        exact hk5 v14
  ·
    refine r_iconst X dX12_takeWord_7 (v := (0 : Int32)) (by decide) ?_
    exact r_zret X dX12_takeWord_8 hret hQ rfl
theorem tw_c_X12_takeWord {ρ : Type} {z : tw_Z} {cc : ByteArray} {own : String} {nL pc : Nat} {σ : tw_Sg} {L : List (Nat × Value)} {st : List Value} {ix : Nat} {n : Nat} {w0 : Nat} (X : tw_X z cc own nL) (d : decode cc pc = .ok (.invokevirtual ix, 3)) (i : Nat) (hi : lw_tbl[i]? = some (.methodLink own ix yX12_takeWord)) (hw0 : w0 < 21) {res : ρ} {E : Option ρ} {r : Int32 × tw_Sg} (h : tw_P_X12_takeWord n w0 σ = some r) (h1 : 7 ≤ (tw_zR z).frames) (h2 : 142 ≤ (tw_zR z).locals) (hcs : tw_zcells z ≤ (tw_zR z).cells ∧ tw_zslots z ≤ (tw_zR z).slots) (hst : (st.map fun v => v.category).sum ≤ 8) (_ : True) (kk : tw_Rf z res E r.2 (pc + 3) L (.int r.1 :: st)) : tw_Rf z res E σ pc L (.ref (tw_zS z w0) :: .ref (tw_zB z + 442) :: st) := r_callV (As := [.ref (tw_zS z w0)]) X d (tw_m_X12_takeWord hw0 h) tw_y_X12_takeWord tw_v_X12_takeWord i hi rfl (tw_kd_lt tw_kc442 (by decide)) (tw_E12 tw_kc442) rfl ⟨rfl, rfl, h1, h2⟩ hcs hst rfl kk
def tw_P_X12_expect (n : Nat) (x0 : Int32) (σ : tw_Sg) : Option (tw_Sg) :=
tw_bd (tw_P_X12_isGood σ) (fun r1 =>
if ¬ r1 = 0 then (tw_bd (tw_P_X12_ahead n σ) (fun r2 =>
tw_jn (fun (a3 : tw_Sg) =>
some a3) (fun (j4 : (tw_Sg) → Option (tw_Sg)) =>
if ¬ r2.1 = x0 then (tw_bd (tw_P_X12_report (-2 : Int32) (r2.2 442 4) r2.2) (fun r5 =>
j4 r5))
else (tw_lt (tw_up r2.2 442 4 ((r2.2 442 4) + (1 : Int32))) (fun (σ6 : tw_Sg) =>
j4 σ6)))))
else (some σ))
theorem tw_y_X12_expect : tw_My yX12_expect cX12_expect 2 none 1 := ⟨List.mem_of_getElem? tw_w1406, List.mem_of_getElem? tw_w101, by decide +kernel, by decide +kernel, by decide +kernel⟩
theorem tw_v_X12_expect : tw_Mv yX12_expect "TreasureWalkModel" := ⟨List.mem_of_getElem? tw_w1405, List.mem_of_getElem? tw_w44, rfl⟩
set_option maxRecDepth 100000 in
set_option maxHeartbeats 4000000 in
theorem tw_m_X12_expect {l : Launch} {B : Nat} {D : va_G} {C : Nat → ClassId} {S : Nat → Nat} {n : Nat} {x0 : Int32} {σ : tw_Sg}  {r : tw_Sg} (h : tw_P_X12_expect n x0 σ = some r) : tw_Met l B D C S yX12_expect cX12_expect 2 none ({ frames := 2, cells := 0, slots := 0, locals := 41 } : Room) [.ref (B + 442), .int x0] σ (none) r := by
  refine tw_metOfP (tw_P_X12_expect n x0 σ) r h (fun r => (none, r)) (by decide +kernel) (Nat.le_of_ble_eq_true rfl) ⟨rfl, rfl⟩ ?_
  intro z el eB eD eC eS hfr hlo hcs X hret hQ
  subst el eB eD eC eS
  have X : tw_X z cX12_expect "TreasureWalkModel" 2 := X
  show tw_Rf z r _ σ 0 [(0, .ref (tw_zB z + 442)), (1, .int x0)] []
  unfold tw_P_X12_expect
  refine r_aload_n X dX12_expect_0 rfl 0 rfl ?_
  refine r_bd (fun r1 hr1 => ?_)
  refine tw_c_X12_isGood X dX12_expect_1 _ tw_w1371  hr1 (tw_le hfr rfl) (tw_le hlo rfl) hcs (Nat.le_of_ble_eq_true rfl) trivial ?_
  refine r_if_ne X dX12_expect_4 (tgt := 8) (by decide) ?_ ?_
  ·
    refine r_aload_n X dX12_expect_8 rfl 0 rfl ?_
    refine r_bd (fun r2 hr2 => ?_)
    refine tw_c_X12_ahead X dX12_expect_9 _ tw_w1375  hr2 (tw_le hfr rfl) (tw_le hlo rfl) hcs (Nat.le_of_ble_eq_true rfl) trivial ?_
    refine r_iload_n X dX12_expect_12 rfl 1 rfl ?_
    refine r_jn (α := tw_Sg) (σJ := fun a3 => a3) (pcJ := 39) (LJ := fun a3 => []) (stJ := fun a3 => []) (ok := fun a3 => True) (fun a3 hoka3 => ?_) (fun j4 hj4 => ?_)
    ·
      exact r_vret X dX12_expect_39 hret hQ rfl
    refine r_icmp_ne X dX12_expect_13 (tgt := 29) (by decide) ?_ ?_
    ·
      refine r_aload_n X dX12_expect_29 rfl 0 rfl ?_
      refine r_bipush X dX12_expect_30 (v := (-2 : Int32)) (by decide) ?_
      refine r_aload_n X dX12_expect_32 rfl 0 rfl ?_
      refine tw_g12_4 (k := 442) (v := .int (r2.2 442 4)) X dX12_expect_33 _ tw_w1256 tw_kc442 rfl ?_
      refine r_bd (fun r5 hr5 => ?_)
      refine tw_c_X12_report X dX12_expect_36 _ tw_w1385  hr5 (tw_le hfr rfl) (tw_le hlo rfl) hcs (Nat.le_of_ble_eq_true rfl) trivial ?_
      exact tw_Rf.sub [] rfl (hj4 r5 trivial)
    ·
      refine r_aload_n X dX12_expect_16 rfl 0 rfl ?_
      refine r_dup X dX12_expect_17 rfl ?_
      refine tw_g12_4 (k := 442) (v := .int (r2.2 442 4)) X dX12_expect_18 _ tw_w1256 tw_kc442 rfl ?_
      refine r_iconst X dX12_expect_21 (v := (1 : Int32)) (by decide) ?_
      refine r_iadd X dX12_expect_22 ?_
      refine tw_s12_4 (k := 442) X dX12_expect_23 _ tw_w1256 tw_kc442 (fun σ6 => ?_)
      refine r_goto X dX12_expect_26 (tgt := 39) (by decide) ?_
      exact tw_Rf.sub [] rfl (hj4 σ6 trivial)
  ·
    exact r_vret X dX12_expect_7 hret hQ rfl
theorem tw_c_X12_expect {ρ : Type} {z : tw_Z} {cc : ByteArray} {own : String} {nL pc : Nat} {σ : tw_Sg} {L : List (Nat × Value)} {st : List Value} {ix : Nat} {n : Nat} {x0 : Int32} (X : tw_X z cc own nL) (d : decode cc pc = .ok (.invokevirtual ix, 3)) (i : Nat) (hi : lw_tbl[i]? = some (.methodLink own ix yX12_expect))  {res : ρ} {E : Option ρ} {r : tw_Sg} (h : tw_P_X12_expect n x0 σ = some r) (h1 : 3 ≤ (tw_zR z).frames) (h2 : 62 ≤ (tw_zR z).locals) (hcs : tw_zcells z ≤ (tw_zR z).cells ∧ tw_zslots z ≤ (tw_zR z).slots) (hst : (st.map fun v => v.category).sum ≤ 8) (_ : True) (kk : tw_Rf z res E r (pc + 3) L (st)) : tw_Rf z res E σ pc L (.int x0 :: .ref (tw_zB z + 442) :: st) := r_callV (As := [.int x0]) X d (tw_m_X12_expect  h) tw_y_X12_expect tw_v_X12_expect i hi rfl (tw_kd_lt tw_kc442 (by decide)) (tw_E12 tw_kc442) rfl ⟨rfl, rfl, h1, h2⟩ hcs hst rfl kk
def tw_P_X12_number (n : Nat) (x0 : Int32) (x1 : Int32) (σ : tw_Sg) : Option (Int32 × tw_Sg) :=
tw_bd (tw_P_X12_isGood σ) (fun r1 =>
if ¬ r1 = 0 then (tw_bd (tw_P_X12_ahead n σ) (fun r2 =>
tw_bd (tw_P_X12_isDigit r2.1 r2.2) (fun r3 =>
if ¬ r3 = 0 then (tw_lt (tw_up r2.2 442 12 (r2.2 442 4)) (fun (σ4 : tw_Sg) =>
tw_lt (0 : Int32) (fun (v5 : Int32) =>
tw_lp (fun (k7 : (Int32 × tw_Sg) → Option (Int32 × tw_Sg)) (a6 : Int32 × tw_Sg) =>
tw_bd (tw_P_X12_byteAt (a6.2 442 4) a6.2) (fun r8 =>
tw_bd (tw_P_X12_isDigit r8 a6.2) (fun r9 =>
if r9 = 0 then (tw_bd (tw_P_X12_in a6.1 x0 x1 a6.2) (fun r10 =>
tw_jn (fun (a11 : tw_Sg) =>
tw_bd (tw_P_X12_isGood a11) (fun r13 =>
tw_jn (fun (a14 : Int32) =>
some (a14, a11)) (fun (j15 : (Int32) → Option (Int32 × tw_Sg)) =>
if r13 = 0 then (j15 (0 : Int32))
else (j15 a6.1)))) (fun (j12 : (tw_Sg) → Option (Int32 × tw_Sg)) =>
if ¬ r10 = 0 then (j12 a6.2)
else (tw_bd (tw_P_X12_report (-3 : Int32) (a6.2 442 12) a6.2) (fun r16 =>
j12 r16)))))
else (tw_bd (tw_P_X12_byteAt (a6.2 442 4) a6.2) (fun r17 =>
tw_bd (tw_P_X12_min (100000000 : Int32) ((((10 : Int32) * a6.1) + r17) - (48 : Int32)) a6.2) (fun r18 =>
tw_lt r18 (fun (v19 : Int32) =>
tw_lt (tw_up a6.2 442 4 ((a6.2 442 4) + (1 : Int32))) (fun (σ20 : tw_Sg) =>
k7 (v19, σ20))))))))) n (v5, σ4))))
else (tw_bd (tw_P_X12_report (-2 : Int32) (r2.2 442 4) r2.2) (fun r21 =>
some ((0 : Int32), r21))))))
else (some ((0 : Int32), σ)))
theorem tw_y_X12_number : tw_My yX12_number cX12_number 4 (some .int) 2 := ⟨List.mem_of_getElem? tw_w1392, List.mem_of_getElem? tw_w101, by decide +kernel, by decide +kernel, by decide +kernel⟩
theorem tw_v_X12_number : tw_Mv yX12_number "TreasureWalkModel" := ⟨List.mem_of_getElem? tw_w1391, List.mem_of_getElem? tw_w43, rfl⟩
set_option maxRecDepth 100000 in
set_option maxHeartbeats 4000000 in
theorem tw_m_X12_number {l : Launch} {B : Nat} {D : va_G} {C : Nat → ClassId} {S : Nat → Nat} {n : Nat} {x0 : Int32} {x1 : Int32} {σ : tw_Sg}  {r : Int32 × tw_Sg} (h : tw_P_X12_number n x0 x1 σ = some r) : tw_Met l B D C S yX12_number cX12_number 4 (some .int) ({ frames := 2, cells := 0, slots := 0, locals := 42 } : Room) [.ref (B + 442), .int x0, .int x1] σ (some (.int r.1)) r.2 := by
  refine tw_metOfP (tw_P_X12_number n x0 x1 σ) r h (fun r => (some (.int r.1), r.2)) (by decide +kernel) (Nat.le_of_ble_eq_true rfl) ⟨rfl, rfl⟩ ?_
  intro z el eB eD eC eS hfr hlo hcs X hret hQ
  subst el eB eD eC eS
  have X : tw_X z cX12_number "TreasureWalkModel" 4 := X
  show tw_Rf z r _ σ 0 [(0, .ref (tw_zB z + 442)), (1, .int x0), (2, .int x1)] []
  unfold tw_P_X12_number
  refine r_aload_n X dX12_number_0 rfl 0 rfl ?_
  refine r_bd (fun r1 hr1 => ?_)
  refine tw_c_X12_isGood X dX12_number_1 _ tw_w1371  hr1 (tw_le hfr rfl) (tw_le hlo rfl) hcs (Nat.le_of_ble_eq_true rfl) trivial ?_
  refine r_if_ne X dX12_number_4 (tgt := 9) (by decide) ?_ ?_
  ·
    refine r_aload_n X dX12_number_9 rfl 0 rfl ?_
    refine r_bd (fun r2 hr2 => ?_)
    refine tw_c_X12_ahead X dX12_number_10 _ tw_w1375  hr2 (tw_le hfr rfl) (tw_le hlo rfl) hcs (Nat.le_of_ble_eq_true rfl) trivial ?_
    refine r_bd (fun r3 hr3 => ?_)
    refine tw_c_X12_isDigit X dX12_number_13 _ tw_w1393  hr3 (tw_le hfr rfl) (tw_le hlo rfl) hcs (Nat.le_of_ble_eq_true rfl) trivial ?_
    refine r_if_ne X dX12_number_16 (tgt := 31) (by decide) ?_ ?_
    ·
      refine r_aload_n X dX12_number_31 rfl 0 rfl ?_
      refine r_aload_n X dX12_number_32 rfl 0 rfl ?_
      refine tw_g12_4 (k := 442) (v := .int (r2.2 442 4)) X dX12_number_33 _ tw_w1256 tw_kc442 rfl ?_
      refine tw_s12_12 (k := 442) X dX12_number_36 _ tw_w1264 tw_kc442 (fun σ4 => ?_)
      refine r_iconst X dX12_number_39 (v := (0 : Int32)) (by decide) ?_
      refine r_istore_n X dX12_number_40 rfl (by decide) (LL := fun v5 => [(3, .int v5), (0, .ref (tw_zB z + 442)), (1, .int x0), (2, .int x1)]) (fun _ => rfl) (fun v5 => ?_)
      refine r_lp (α := Int32 × tw_Sg) (σJ := fun a6 => a6.2) (pcJ := 41) (LJ := fun a6 => [(3, .int a6.1), (0, .ref (tw_zB z + 442)), (1, .int x0), (2, .int x1)]) (stJ := fun a6 => []) (fun k7 hk7 a6 => ?_) n (v5, σ4)
      refine r_aload_n X dX12_number_41 rfl 1 rfl ?_
      refine r_aload_n X dX12_number_42 rfl 1 rfl ?_
      refine tw_g12_4 (k := 442) (v := .int (a6.2 442 4)) X dX12_number_43 _ tw_w1256 tw_kc442 rfl ?_
      refine r_bd (fun r8 hr8 => ?_)
      refine tw_c_X12_byteAt X dX12_number_46 _ tw_w1379  hr8 (tw_le hfr rfl) (tw_le hlo rfl) hcs (Nat.le_of_ble_eq_true rfl) trivial ?_
      refine r_bd (fun r9 hr9 => ?_)
      refine tw_c_X12_isDigit X dX12_number_49 _ tw_w1393  hr9 (tw_le hfr rfl) (tw_le hlo rfl) hcs (Nat.le_of_ble_eq_true rfl) trivial ?_
      refine r_if_eq X dX12_number_52 (tgt := 90) (by decide) ?_ ?_
      ·
        refine r_iload_n X dX12_number_90 rfl 0 rfl ?_
        refine r_iload_n X dX12_number_91 rfl 2 rfl ?_
        refine r_iload_n X dX12_number_92 rfl 3 rfl ?_
        refine r_bd (fun r10 hr10 => ?_)
        refine tw_c_X12_in X dX12_number_93 _ tw_w1359  hr10 (tw_le hfr rfl) (tw_le hlo rfl) hcs (Nat.le_of_ble_eq_true rfl) trivial ?_
        refine r_jn (α := tw_Sg) (σJ := fun a11 => a11) (pcJ := 109) (LJ := fun a11 => [(3, .int a6.1), (0, .ref (tw_zB z + 442))]) (stJ := fun a11 => []) (ok := fun a11 => True) (fun a11 hoka11 => ?_) (fun j12 hj12 => ?_)
        ·
          refine r_aload_n X dX12_number_109 rfl 1 rfl ?_
          refine r_bd (fun r13 hr13 => ?_)
          refine tw_c_X12_isGood X dX12_number_110 _ tw_w1371  hr13 (tw_le hfr rfl) (tw_le hlo rfl) hcs (Nat.le_of_ble_eq_true rfl) trivial ?_
          refine r_jn (α := Int32) (σJ := fun a14 => a11) (pcJ := 121) (LJ := fun a14 => []) (stJ := fun a14 => [.int a14]) (ok := fun a14 => True) (fun a14 hoka14 => ?_) (fun j15 hj15 => ?_)
          ·
            exact r_iret X dX12_number_121 hret hQ rfl
          refine r_if_eq X dX12_number_113 (tgt := 120) (by decide) ?_ ?_
          ·
            refine r_iconst X dX12_number_120 (v := (0 : Int32)) (by decide) ?_
            exact tw_Rf.sub [] rfl (hj15 (0 : Int32) trivial)
          ·
            refine r_iload_n X dX12_number_116 rfl 0 rfl ?_
            refine r_goto X dX12_number_117 (tgt := 121) (by decide) ?_
            exact tw_Rf.sub [] rfl (hj15 a6.1 trivial)
        refine r_if_ne X dX12_number_96 (tgt := 109) (by decide) ?_ ?_
        ·
          exact tw_Rf.sub [0, 1] rfl (hj12 a6.2 trivial)
        ·
          refine r_aload_n X dX12_number_99 rfl 1 rfl ?_
          refine r_bipush X dX12_number_100 (v := (-3 : Int32)) (by decide) ?_
          refine r_aload_n X dX12_number_102 rfl 1 rfl ?_
          refine tw_g12_12 (k := 442) (v := .int (a6.2 442 12)) X dX12_number_103 _ tw_w1264 tw_kc442 rfl ?_
          refine r_bd (fun r16 hr16 => ?_)
          refine tw_c_X12_report X dX12_number_106 _ tw_w1385  hr16 (tw_le hfr rfl) (tw_le hlo rfl) hcs (Nat.le_of_ble_eq_true rfl) trivial ?_
          exact tw_Rf.sub [0, 1] rfl (hj12 r16 trivial)
      ·
        refine r_ldcI X dX12_number_55 (v := (100000000 : Int32)) _ tw_w1396 ?_
        refine r_bipush X dX12_number_57 (v := (10 : Int32)) (by decide) ?_
        refine r_iload_n X dX12_number_59 rfl 0 rfl ?_
        refine r_imul X dX12_number_60 ?_
        refine r_aload_n X dX12_number_61 rfl 1 rfl ?_
        refine r_aload_n X dX12_number_62 rfl 1 rfl ?_
        refine tw_g12_4 (k := 442) (v := .int (a6.2 442 4)) X dX12_number_63 _ tw_w1256 tw_kc442 rfl ?_
        refine r_bd (fun r17 hr17 => ?_)
        refine tw_c_X12_byteAt X dX12_number_66 _ tw_w1379  hr17 (tw_le hfr rfl) (tw_le hlo rfl) hcs (Nat.le_of_ble_eq_true rfl) trivial ?_
        refine r_iadd X dX12_number_69 ?_
        refine r_bipush X dX12_number_70 (v := (48 : Int32)) (by decide) ?_
        refine r_isub X dX12_number_72 ?_
        refine r_bd (fun r18 hr18 => ?_)
        refine tw_c_X12_min X dX12_number_73 _ tw_w1397  hr18 (tw_le hfr rfl) (tw_le hlo rfl) hcs (Nat.le_of_ble_eq_true rfl) trivial ?_
        refine r_istore_n X dX12_number_76 rfl (by decide) (LL := fun v19 => [(3, .int v19), (0, .ref (tw_zB z + 442)), (1, .int x0), (2, .int x1)]) (fun _ => rfl) (fun v19 => ?_)
        refine r_aload_n X dX12_number_77 rfl 1 rfl ?_
        refine r_dup X dX12_number_78 rfl ?_
        refine tw_g12_4 (k := 442) (v := .int (a6.2 442 4)) X dX12_number_79 _ tw_w1256 tw_kc442 rfl ?_
        refine r_iconst X dX12_number_82 (v := (1 : Int32)) (by decide) ?_
        refine r_iadd X dX12_number_83 ?_
        refine tw_s12_4 (k := 442) X dX12_number_84 _ tw_w1256 tw_kc442 (fun σ20 => ?_)
        refine r_goto X dX12_number_87 (tgt := 41) (by decide) ?_
        exact hk7 (v19, σ20)
    ·
      refine r_aload_n X dX12_number_19 rfl 0 rfl ?_
      refine r_bipush X dX12_number_20 (v := (-2 : Int32)) (by decide) ?_
      refine r_aload_n X dX12_number_22 rfl 0 rfl ?_
      refine tw_g12_4 (k := 442) (v := .int (r2.2 442 4)) X dX12_number_23 _ tw_w1256 tw_kc442 rfl ?_
      refine r_bd (fun r21 hr21 => ?_)
      refine tw_c_X12_report X dX12_number_26 _ tw_w1385  hr21 (tw_le hfr rfl) (tw_le hlo rfl) hcs (Nat.le_of_ble_eq_true rfl) trivial ?_
      refine r_iconst X dX12_number_29 (v := (0 : Int32)) (by decide) ?_
      exact r_iret X dX12_number_30 hret hQ rfl
  ·
    refine r_iconst X dX12_number_7 (v := (0 : Int32)) (by decide) ?_
    exact r_iret X dX12_number_8 hret hQ rfl
theorem tw_c_X12_number {ρ : Type} {z : tw_Z} {cc : ByteArray} {own : String} {nL pc : Nat} {σ : tw_Sg} {L : List (Nat × Value)} {st : List Value} {ix : Nat} {n : Nat} {x0 : Int32} {x1 : Int32} (X : tw_X z cc own nL) (d : decode cc pc = .ok (.invokevirtual ix, 3)) (i : Nat) (hi : lw_tbl[i]? = some (.methodLink own ix yX12_number))  {res : ρ} {E : Option ρ} {r : Int32 × tw_Sg} (h : tw_P_X12_number n x0 x1 σ = some r) (h1 : 3 ≤ (tw_zR z).frames) (h2 : 65 ≤ (tw_zR z).locals) (hcs : tw_zcells z ≤ (tw_zR z).cells ∧ tw_zslots z ≤ (tw_zR z).slots) (hst : (st.map fun v => v.category).sum ≤ 8) (_ : True) (kk : tw_Rf z res E r.2 (pc + 3) L (.int r.1 :: st)) : tw_Rf z res E σ pc L (.int x1 :: .int x0 :: .ref (tw_zB z + 442) :: st) := r_callV (As := [.int x0, .int x1]) X d (tw_m_X12_number  h) tw_y_X12_number tw_v_X12_number i hi rfl (tw_kd_lt tw_kc442 (by decide)) (tw_E12 tw_kc442) rfl ⟨rfl, rfl, h1, h2⟩ hcs hst rfl kk
def tw_P_X12_readArea (n : Nat)  (σ : tw_Sg) : Option (tw_Sg) :=
tw_ck (tw_ok (0 : Int32) (tw_ln 445)) (
tw_bd (tw_P_X12_number n (0 : Int32) ((σ 445 (Int32.toNatClampNeg (0 : Int32))) - (1 : Int32)) σ) (fun r1 =>
tw_lt (tw_up r1.2 442 15 r1.1) (fun (σ2 : tw_Sg) =>
tw_lt (tw_up σ2 442 14 (σ2 442 12)) (fun (σ3 : tw_Sg) =>
tw_ck (tw_ok (1 : Int32) (tw_ln 445)) (
tw_bd (tw_P_X12_number n (0 : Int32) ((σ3 445 (Int32.toNatClampNeg (1 : Int32))) - (1 : Int32)) σ3) (fun r4 =>
tw_lt (tw_up r4.2 442 16 r4.1) (fun (σ5 : tw_Sg) =>
tw_ck (tw_ok (0 : Int32) (tw_ln 445)) (
tw_bd (tw_P_X12_number n (σ5 442 15) ((σ5 445 (Int32.toNatClampNeg (0 : Int32))) - (1 : Int32)) σ5) (fun r6 =>
tw_lt (tw_up r6.2 442 17 r6.1) (fun (σ7 : tw_Sg) =>
tw_ck (tw_ok (1 : Int32) (tw_ln 445)) (
tw_bd (tw_P_X12_number n (σ7 442 16) ((σ7 445 (Int32.toNatClampNeg (1 : Int32))) - (1 : Int32)) σ7) (fun r8 =>
tw_lt (tw_up r8.2 442 18 r8.1) (fun (σ9 : tw_Sg) =>
some σ9)))))))))))))
theorem tw_y_X12_readArea : tw_My yX12_readArea cX12_readArea 1 none 0 := ⟨List.mem_of_getElem? tw_w1419, List.mem_of_getElem? tw_w101, by decide +kernel, by decide +kernel, by decide +kernel⟩
theorem tw_v_X12_readArea : tw_Mv yX12_readArea "TreasureWalkModel" := ⟨List.mem_of_getElem? tw_w1418, List.mem_of_getElem? tw_w47, rfl⟩
set_option maxRecDepth 100000 in
set_option maxHeartbeats 4000000 in
theorem tw_m_X12_readArea {l : Launch} {B : Nat} {D : va_G} {C : Nat → ClassId} {S : Nat → Nat} {n : Nat}  {σ : tw_Sg}  {r : tw_Sg} (h : tw_P_X12_readArea n σ = some r) : tw_Met l B D C S yX12_readArea cX12_readArea 1 none ({ frames := 3, cells := 0, slots := 0, locals := 65 } : Room) [.ref (B + 442)] σ (none) r := by
  refine tw_metOfP (tw_P_X12_readArea n σ) r h (fun r => (none, r)) (by decide +kernel) (Nat.le_of_ble_eq_true rfl) ⟨rfl, rfl⟩ ?_
  intro z el eB eD eC eS hfr hlo hcs X hret hQ
  subst el eB eD eC eS
  have X : tw_X z cX12_readArea "TreasureWalkModel" 1 := X
  show tw_Rf z r _ σ 0 [(0, .ref (tw_zB z + 442))] []
  unfold tw_P_X12_readArea
  refine r_aload_n X dX12_readArea_0 rfl 0 rfl ?_
  refine r_aload_n X dX12_readArea_1 rfl 0 rfl ?_
  refine r_iconst X dX12_readArea_2 (v := (0 : Int32)) (by decide) ?_
  refine r_aload_n X dX12_readArea_3 rfl 0 rfl ?_
  refine tw_g12_9 (k := 442) (v := .ref (tw_zB z + 445)) X dX12_readArea_4 _ tw_w1261 tw_kc442 rfl ?_
  refine r_iconst X dX12_readArea_7 (v := (0 : Int32)) (by decide) ?_
  refine r_iald (k := 445) X dX12_readArea_8 tw_kc445 ?_
  refine r_iconst X dX12_readArea_9 (v := (1 : Int32)) (by decide) ?_
  refine r_isub X dX12_readArea_10 ?_
  refine r_bd (fun r1 hr1 => ?_)
  refine tw_c_X12_number X dX12_readArea_11 _ tw_w1389  hr1 (tw_le hfr rfl) (tw_le hlo rfl) hcs (Nat.le_of_ble_eq_true rfl) trivial ?_
  refine tw_s12_15 (k := 442) X dX12_readArea_14 _ tw_w1267 tw_kc442 (fun σ2 => ?_)
  refine r_aload_n X dX12_readArea_17 rfl 0 rfl ?_
  refine r_aload_n X dX12_readArea_18 rfl 0 rfl ?_
  refine tw_g12_12 (k := 442) (v := .int (σ2 442 12)) X dX12_readArea_19 _ tw_w1264 tw_kc442 rfl ?_
  refine tw_s12_14 (k := 442) X dX12_readArea_22 _ tw_w1266 tw_kc442 (fun σ3 => ?_)
  refine r_aload_n X dX12_readArea_25 rfl 0 rfl ?_
  refine r_aload_n X dX12_readArea_26 rfl 0 rfl ?_
  refine r_iconst X dX12_readArea_27 (v := (0 : Int32)) (by decide) ?_
  refine r_aload_n X dX12_readArea_28 rfl 0 rfl ?_
  refine tw_g12_9 (k := 442) (v := .ref (tw_zB z + 445)) X dX12_readArea_29 _ tw_w1261 tw_kc442 rfl ?_
  refine r_iconst X dX12_readArea_32 (v := (1 : Int32)) (by decide) ?_
  refine r_iald (k := 445) X dX12_readArea_33 tw_kc445 ?_
  refine r_iconst X dX12_readArea_34 (v := (1 : Int32)) (by decide) ?_
  refine r_isub X dX12_readArea_35 ?_
  refine r_bd (fun r4 hr4 => ?_)
  refine tw_c_X12_number X dX12_readArea_36 _ tw_w1389  hr4 (tw_le hfr rfl) (tw_le hlo rfl) hcs (Nat.le_of_ble_eq_true rfl) trivial ?_
  refine tw_s12_16 (k := 442) X dX12_readArea_39 _ tw_w1268 tw_kc442 (fun σ5 => ?_)
  refine r_aload_n X dX12_readArea_42 rfl 0 rfl ?_
  refine r_aload_n X dX12_readArea_43 rfl 0 rfl ?_
  refine r_aload_n X dX12_readArea_44 rfl 0 rfl ?_
  refine tw_g12_15 (k := 442) (v := .int (σ5 442 15)) X dX12_readArea_45 _ tw_w1267 tw_kc442 rfl ?_
  refine r_aload_n X dX12_readArea_48 rfl 0 rfl ?_
  refine tw_g12_9 (k := 442) (v := .ref (tw_zB z + 445)) X dX12_readArea_49 _ tw_w1261 tw_kc442 rfl ?_
  refine r_iconst X dX12_readArea_52 (v := (0 : Int32)) (by decide) ?_
  refine r_iald (k := 445) X dX12_readArea_53 tw_kc445 ?_
  refine r_iconst X dX12_readArea_54 (v := (1 : Int32)) (by decide) ?_
  refine r_isub X dX12_readArea_55 ?_
  refine r_bd (fun r6 hr6 => ?_)
  refine tw_c_X12_number X dX12_readArea_56 _ tw_w1389  hr6 (tw_le hfr rfl) (tw_le hlo rfl) hcs (Nat.le_of_ble_eq_true rfl) trivial ?_
  refine tw_s12_17 (k := 442) X dX12_readArea_59 _ tw_w1269 tw_kc442 (fun σ7 => ?_)
  refine r_aload_n X dX12_readArea_62 rfl 0 rfl ?_
  refine r_aload_n X dX12_readArea_63 rfl 0 rfl ?_
  refine r_aload_n X dX12_readArea_64 rfl 0 rfl ?_
  refine tw_g12_16 (k := 442) (v := .int (σ7 442 16)) X dX12_readArea_65 _ tw_w1268 tw_kc442 rfl ?_
  refine r_aload_n X dX12_readArea_68 rfl 0 rfl ?_
  refine tw_g12_9 (k := 442) (v := .ref (tw_zB z + 445)) X dX12_readArea_69 _ tw_w1261 tw_kc442 rfl ?_
  refine r_iconst X dX12_readArea_72 (v := (1 : Int32)) (by decide) ?_
  refine r_iald (k := 445) X dX12_readArea_73 tw_kc445 ?_
  refine r_iconst X dX12_readArea_74 (v := (1 : Int32)) (by decide) ?_
  refine r_isub X dX12_readArea_75 ?_
  refine r_bd (fun r8 hr8 => ?_)
  refine tw_c_X12_number X dX12_readArea_76 _ tw_w1389  hr8 (tw_le hfr rfl) (tw_le hlo rfl) hcs (Nat.le_of_ble_eq_true rfl) trivial ?_
  refine tw_s12_18 (k := 442) X dX12_readArea_79 _ tw_w1270 tw_kc442 (fun σ9 => ?_)
  exact r_vret X dX12_readArea_82 hret hQ rfl
theorem tw_c_X12_readArea {ρ : Type} {z : tw_Z} {cc : ByteArray} {own : String} {nL pc : Nat} {σ : tw_Sg} {L : List (Nat × Value)} {st : List Value} {ix : Nat} {n : Nat}  (X : tw_X z cc own nL) (d : decode cc pc = .ok (.invokevirtual ix, 3)) (i : Nat) (hi : lw_tbl[i]? = some (.methodLink own ix yX12_readArea))  {res : ρ} {E : Option ρ} {r : tw_Sg} (h : tw_P_X12_readArea n σ = some r) (h1 : 4 ≤ (tw_zR z).frames) (h2 : 85 ≤ (tw_zR z).locals) (hcs : tw_zcells z ≤ (tw_zR z).cells ∧ tw_zslots z ≤ (tw_zR z).slots) (hst : (st.map fun v => v.category).sum ≤ 8) (_ : True) (kk : tw_Rf z res E r (pc + 3) L (st)) : tw_Rf z res E σ pc L (.ref (tw_zB z + 442) :: st) := r_callV (As := []) X d (tw_m_X12_readArea  h) tw_y_X12_readArea tw_v_X12_readArea i hi rfl (tw_kd_lt tw_kc442 (by decide)) (tw_E12 tw_kc442) rfl ⟨rfl, rfl, h1, h2⟩ hcs hst rfl kk
def tw_P_X12_isInArea (x0 : Int32) (σ : tw_Sg) : Option (Int32) :=
tw_ck (tw_ok (0 : Int32) (tw_ln 445)) (
tw_ck (!decide ((σ 445 (Int32.toNatClampNeg (0 : Int32))) = 0)) (
tw_lt (x0 - x0 / (σ 445 (Int32.toNatClampNeg (0 : Int32))) * (σ 445 (Int32.toNatClampNeg (0 : Int32)))) (fun (v1 : Int32) =>
tw_ck (tw_ok (0 : Int32) (tw_ln 445)) (
tw_ck (!decide ((σ 445 (Int32.toNatClampNeg (0 : Int32))) = 0)) (
tw_lt (x0 / (σ 445 (Int32.toNatClampNeg (0 : Int32)))) (fun (v2 : Int32) =>
tw_jn (fun (a3 : Int32) =>
tw_ck (tw_01 a3) (some a3)) (fun (j4 : (Int32) → Option (Int32)) =>
tw_jn (fun (a5 : Unit) =>
j4 (0 : Int32)) (fun (j6 : (Unit) → Option (Int32)) =>
if x0 = (-1 : Int32) then (j6 ())
else (tw_bd (tw_P_X12_in v1 (σ 442 15) (σ 442 17) σ) (fun r7 =>
if r7 = 0 then (j6 ())
else (tw_bd (tw_P_X12_in v2 (σ 442 16) (σ 442 18) σ) (fun r8 =>
if r8 = 0 then (j6 ())
else (j4 (1 : Int32))))))))))))))
theorem tw_y_X12_isInArea : tw_My yX12_isInArea cX12_isInArea 4 (some .boolean) 1 := ⟨List.mem_of_getElem? tw_w1423, List.mem_of_getElem? tw_w101, by decide +kernel, by decide +kernel, by decide +kernel⟩
theorem tw_v_X12_isInArea : tw_Mv yX12_isInArea "TreasureWalkModel" := ⟨List.mem_of_getElem? tw_w1422, List.mem_of_getElem? tw_w48, rfl⟩
set_option maxRecDepth 100000 in
set_option maxHeartbeats 4000000 in
theorem tw_m_X12_isInArea {l : Launch} {B : Nat} {D : va_G} {C : Nat → ClassId} {S : Nat → Nat} {x0 : Int32} {σ : tw_Sg}  {r : Int32} (h : tw_P_X12_isInArea x0 σ = some r) : tw_Met l B D C S yX12_isInArea cX12_isInArea 4 (some .boolean) ({ frames := 1, cells := 0, slots := 0, locals := 22 } : Room) [.ref (B + 442), .int x0] σ (some (.int r)) σ := by
  refine tw_metOfP (tw_P_X12_isInArea x0 σ) r h (fun r => (some (.int r), σ)) (by decide +kernel) (Nat.le_of_ble_eq_true rfl) ⟨rfl, rfl⟩ ?_
  intro z el eB eD eC eS hfr hlo hcs X hret hQ
  subst el eB eD eC eS
  have X : tw_X z cX12_isInArea "TreasureWalkModel" 4 := X
  show tw_Rf z r _ σ 0 [(0, .ref (tw_zB z + 442)), (1, .int x0)] []
  unfold tw_P_X12_isInArea
  refine r_iload_n X dX12_isInArea_0 rfl 1 rfl ?_
  refine r_aload_n X dX12_isInArea_1 rfl 0 rfl ?_
  refine tw_g12_9 (k := 442) (v := .ref (tw_zB z + 445)) X dX12_isInArea_2 _ tw_w1261 tw_kc442 rfl ?_
  refine r_iconst X dX12_isInArea_5 (v := (0 : Int32)) (by decide) ?_
  refine r_iald (k := 445) X dX12_isInArea_6 tw_kc445 ?_
  refine r_irem X dX12_isInArea_7 ?_
  refine r_istore_n X dX12_isInArea_8 rfl (by decide) (LL := fun v1 => [(2, .int v1), (0, .ref (tw_zB z + 442)), (1, .int x0)]) (fun _ => rfl) (fun v1 => ?_)
  refine r_iload_n X dX12_isInArea_9 rfl 2 rfl ?_
  refine r_aload_n X dX12_isInArea_10 rfl 1 rfl ?_
  refine tw_g12_9 (k := 442) (v := .ref (tw_zB z + 445)) X dX12_isInArea_11 _ tw_w1261 tw_kc442 rfl ?_
  refine r_iconst X dX12_isInArea_14 (v := (0 : Int32)) (by decide) ?_
  refine r_iald (k := 445) X dX12_isInArea_15 tw_kc445 ?_
  refine r_idiv X dX12_isInArea_16 ?_
  refine r_istore_n X dX12_isInArea_17 rfl (by decide) (LL := fun v2 => [(3, .int v2), (2, .int v1), (0, .ref (tw_zB z + 442)), (1, .int x0)]) (fun _ => rfl) (fun v2 => ?_)
  refine r_iload_n X dX12_isInArea_18 rfl 3 rfl ?_
  refine r_iconst X dX12_isInArea_19 (v := (-1 : Int32)) (by decide) ?_
  refine r_jn (α := Int32) (σJ := fun a3 => σ) (pcJ := 58) (LJ := fun a3 => []) (stJ := fun a3 => [.int a3]) (ok := fun a3 => True) (fun a3 hoka3 => ?_) (fun j4 hj4 => ?_)
  ·
    exact r_zret X dX12_isInArea_58 hret hQ rfl
  refine r_jn (α := Unit) (σJ := fun a5 => σ) (pcJ := 57) (LJ := fun a5 => []) (stJ := fun a5 => []) (ok := fun a5 => True) (fun a5 hoka5 => ?_) (fun j6 hj6 => ?_)
  ·
    refine r_iconst X dX12_isInArea_57 (v := (0 : Int32)) (by decide) ?_
    exact hj4 (0 : Int32) trivial
  refine r_icmp_eq X dX12_isInArea_20 (tgt := 57) (by decide) ?_ ?_
  ·
    exact tw_Rf.sub [] rfl (hj6 () trivial)
  ·
    refine r_iload_n X dX12_isInArea_23 rfl 1 rfl ?_
    refine r_aload_n X dX12_isInArea_24 rfl 2 rfl ?_
    refine tw_g12_15 (k := 442) (v := .int (σ 442 15)) X dX12_isInArea_25 _ tw_w1267 tw_kc442 rfl ?_
    refine r_aload_n X dX12_isInArea_28 rfl 2 rfl ?_
    refine tw_g12_17 (k := 442) (v := .int (σ 442 17)) X dX12_isInArea_29 _ tw_w1269 tw_kc442 rfl ?_
    refine r_bd (fun r7 hr7 => ?_)
    refine tw_c_X12_in X dX12_isInArea_32 _ tw_w1359  hr7 (tw_le hfr rfl) (tw_le hlo rfl) hcs (Nat.le_of_ble_eq_true rfl) trivial ?_
    refine r_if_eq X dX12_isInArea_35 (tgt := 57) (by decide) ?_ ?_
    ·
      exact tw_Rf.sub [] rfl (hj6 () trivial)
    ·
      refine r_iload_n X dX12_isInArea_38 rfl 0 rfl ?_
      refine r_aload_n X dX12_isInArea_39 rfl 2 rfl ?_
      refine tw_g12_16 (k := 442) (v := .int (σ 442 16)) X dX12_isInArea_40 _ tw_w1268 tw_kc442 rfl ?_
      refine r_aload_n X dX12_isInArea_43 rfl 2 rfl ?_
      refine tw_g12_18 (k := 442) (v := .int (σ 442 18)) X dX12_isInArea_44 _ tw_w1270 tw_kc442 rfl ?_
      refine r_bd (fun r8 hr8 => ?_)
      refine tw_c_X12_in X dX12_isInArea_47 _ tw_w1359  hr8 (tw_le hfr rfl) (tw_le hlo rfl) hcs (Nat.le_of_ble_eq_true rfl) trivial ?_
      refine r_if_eq X dX12_isInArea_50 (tgt := 57) (by decide) ?_ ?_
      ·
        exact tw_Rf.sub [] rfl (hj6 () trivial)
      ·
        refine r_iconst X dX12_isInArea_53 (v := (1 : Int32)) (by decide) ?_
        refine r_goto X dX12_isInArea_54 (tgt := 58) (by decide) ?_
        exact tw_Rf.sub [] rfl (hj4 (1 : Int32) trivial)
theorem tw_c_X12_isInArea {ρ : Type} {z : tw_Z} {cc : ByteArray} {own : String} {nL pc : Nat} {σ : tw_Sg} {L : List (Nat × Value)} {st : List Value} {ix : Nat} {x0 : Int32} (X : tw_X z cc own nL) (d : decode cc pc = .ok (.invokevirtual ix, 3)) (i : Nat) (hi : lw_tbl[i]? = some (.methodLink own ix yX12_isInArea))  {res : ρ} {E : Option ρ} {r : Int32} (h : tw_P_X12_isInArea x0 σ = some r) (h1 : 2 ≤ (tw_zR z).frames) (h2 : 45 ≤ (tw_zR z).locals) (hcs : tw_zcells z ≤ (tw_zR z).cells ∧ tw_zslots z ≤ (tw_zR z).slots) (hst : (st.map fun v => v.category).sum ≤ 8) (_ : True) (kk : tw_Rf z res E σ (pc + 3) L (.int r :: st)) : tw_Rf z res E σ pc L (.int x0 :: .ref (tw_zB z + 442) :: st) := r_callV (As := [.int x0]) X d (tw_m_X12_isInArea  h) tw_y_X12_isInArea tw_v_X12_isInArea i hi rfl (tw_kd_lt tw_kc442 (by decide)) (tw_E12 tw_kc442) rfl ⟨rfl, rfl, h1, h2⟩ hcs hst rfl kk
def tw_P_X12_firstLand (n : Nat) (r0 : Nat) (σ : tw_Sg) : Option (Int32) :=
tw_lt (0 : Int32) (fun (v1 : Int32) =>
tw_lp (fun (k3 : (Int32) → Option (Int32)) (a2 : Int32) =>
tw_ck (tw_ok (0 : Int32) (tw_ln r0)) (
tw_ck (tw_ok (1 : Int32) (tw_ln r0)) (
tw_jn (fun (a4 : Unit) =>
tw_ck (tw_ok (0 : Int32) (tw_ln r0)) (
tw_ck (tw_ok (1 : Int32) (tw_ln r0)) (
tw_jn (fun (a6 : Int32) =>
some a6) (fun (j7 : (Int32) → Option (Int32)) =>
if ((σ r0 (Int32.toNatClampNeg (0 : Int32))) * (σ r0 (Int32.toNatClampNeg (1 : Int32)))) ≤ a2 then (j7 (-1 : Int32))
else (j7 a2))))) (fun (j5 : (Unit) → Option (Int32)) =>
if ((σ r0 (Int32.toNatClampNeg (0 : Int32))) * (σ r0 (Int32.toNatClampNeg (1 : Int32)))) ≤ a2 then (j5 ())
else (tw_ck (tw_ok ((8 : Int32) + a2) (tw_ln r0)) (
if ¬ (σ r0 (Int32.toNatClampNeg ((8 : Int32) + a2))) = (1 : Int32) then (j5 ())
else (tw_lt (a2 + (1 : Int32)) (fun (v8 : Int32) =>
k3 v8)))))))) n v1)
theorem tw_y_X12_firstLand : tw_My yX12_firstLand cX12_firstLand 2 (some .int) 1 := ⟨List.mem_of_getElem? tw_w1426, List.mem_of_getElem? tw_w101, by decide +kernel, by decide +kernel, by decide +kernel⟩
theorem tw_v_X12_firstLand : tw_Ms yX12_firstLand := List.mem_of_getElem? tw_w1425
set_option maxRecDepth 100000 in
set_option maxHeartbeats 4000000 in
theorem tw_m_X12_firstLand {l : Launch} {B : Nat} {D : va_G} {C : Nat → ClassId} {S : Nat → Nat} {n : Nat} {r0 : Nat} {σ : tw_Sg} (hr0 : tw_kd r0 = 13) {r : Int32} (h : tw_P_X12_firstLand n r0 σ = some r) : tw_Met l B D C S yX12_firstLand cX12_firstLand 2 (some .int) ({ frames := 0, cells := 0, slots := 0, locals := 0 } : Room) [.ref (B + r0)] σ (some (.int r)) σ := by
  refine tw_metOfP (tw_P_X12_firstLand n r0 σ) r h (fun r => (some (.int r), σ)) (by decide +kernel) (Nat.le_of_ble_eq_true rfl) ⟨rfl, rfl⟩ ?_
  intro z el eB eD eC eS hfr hlo hcs X hret hQ
  subst el eB eD eC eS
  have X : tw_X z cX12_firstLand "TreasureWalkModel" 2 := X
  show tw_Rf z r _ σ 0 [(0, .ref (tw_zB z + r0))] []
  unfold tw_P_X12_firstLand
  refine r_iconst X dX12_firstLand_0 (v := (0 : Int32)) (by decide) ?_
  refine r_istore_n X dX12_firstLand_1 rfl (by decide) (LL := fun v1 => [(1, .int v1), (0, .ref (tw_zB z + r0))]) (fun _ => rfl) (fun v1 => ?_)
  refine r_lp (α := Int32) (σJ := fun a2 => σ) (pcJ := 2) (LJ := fun a2 => [(1, .int a2), (0, .ref (tw_zB z + r0))]) (stJ := fun a2 => []) (fun k3 hk3 a2 => ?_) n v1
  refine r_iload_n X dX12_firstLand_2 rfl 0 rfl ?_
  refine r_aload_n X dX12_firstLand_3 rfl 1 rfl ?_
  refine r_iconst X dX12_firstLand_4 (v := (0 : Int32)) (by decide) ?_
  refine r_iald (k := r0) X dX12_firstLand_5 hr0 ?_
  refine r_aload_n X dX12_firstLand_6 rfl 1 rfl ?_
  refine r_iconst X dX12_firstLand_7 (v := (1 : Int32)) (by decide) ?_
  refine r_iald (k := r0) X dX12_firstLand_8 hr0 ?_
  refine r_imul X dX12_firstLand_9 ?_
  refine r_jn (α := Unit) (σJ := fun a4 => σ) (pcJ := 29) (LJ := fun a4 => [(1, .int a2), (0, .ref (tw_zB z + r0))]) (stJ := fun a4 => []) (ok := fun a4 => True) (fun a4 hoka4 => ?_) (fun j5 hj5 => ?_)
  ·
    refine r_iload_n X dX12_firstLand_29 rfl 0 rfl ?_
    refine r_aload_n X dX12_firstLand_30 rfl 1 rfl ?_
    refine r_iconst X dX12_firstLand_31 (v := (0 : Int32)) (by decide) ?_
    refine r_iald (k := r0) X dX12_firstLand_32 hr0 ?_
    refine r_aload_n X dX12_firstLand_33 rfl 1 rfl ?_
    refine r_iconst X dX12_firstLand_34 (v := (1 : Int32)) (by decide) ?_
    refine r_iald (k := r0) X dX12_firstLand_35 hr0 ?_
    refine r_imul X dX12_firstLand_36 ?_
    refine r_jn (α := Int32) (σJ := fun a6 => σ) (pcJ := 45) (LJ := fun a6 => []) (stJ := fun a6 => [.int a6]) (ok := fun a6 => True) (fun a6 hoka6 => ?_) (fun j7 hj7 => ?_)
    ·
      exact r_iret X dX12_firstLand_45 hret hQ rfl
    refine r_icmp_ge X dX12_firstLand_37 (tgt := 44) (by decide) ?_ ?_
    ·
      refine r_iconst X dX12_firstLand_44 (v := (-1 : Int32)) (by decide) ?_
      exact tw_Rf.sub [] rfl (hj7 (-1 : Int32) trivial)
    ·
      refine r_iload_n X dX12_firstLand_40 rfl 0 rfl ?_
      refine r_goto X dX12_firstLand_41 (tgt := 45) (by decide) ?_
      exact tw_Rf.sub [] rfl (hj7 a2 trivial)
  refine r_icmp_ge X dX12_firstLand_10 (tgt := 29) (by decide) ?_ ?_
  ·
    exact hj5 () trivial
  ·
    refine r_aload_n X dX12_firstLand_13 rfl 1 rfl ?_
    refine r_bipush X dX12_firstLand_14 (v := (8 : Int32)) (by decide) ?_
    refine r_iload_n X dX12_firstLand_16 rfl 0 rfl ?_
    refine r_iadd X dX12_firstLand_17 ?_
    refine r_iald (k := r0) X dX12_firstLand_18 hr0 ?_
    refine r_iconst X dX12_firstLand_19 (v := (1 : Int32)) (by decide) ?_
    refine r_icmp_ne X dX12_firstLand_20 (tgt := 29) (by decide) ?_ ?_
    ·
      exact hj5 () trivial
    ·
      refine r_iinc X dX12_firstLand_23 0 rfl (v := (1 : Int32)) (by decide) (by decide) (LL := fun v8 => [(1, .int v8), (0, .ref (tw_zB z + r0))]) (fun _ => rfl) (fun v8 => ?_)
      refine r_goto X dX12_firstLand_26 (tgt := 2) (by decide) ?_
      exact hk3 v8
theorem tw_c_X12_firstLand {ρ : Type} {z : tw_Z} {cc : ByteArray} {own : String} {nL pc : Nat} {σ : tw_Sg} {L : List (Nat × Value)} {st : List Value} {ix : Nat} {n : Nat} {r0 : Nat} (X : tw_X z cc own nL) (d : decode cc pc = .ok (.invokestatic ix, 3)) (i : Nat) (hi : lw_tbl[i]? = some (.methodLink own ix yX12_firstLand)) (hr0 : tw_kd r0 = 13) {res : ρ} {E : Option ρ} {r : Int32} (h : tw_P_X12_firstLand n r0 σ = some r) (h1 : 1 ≤ (tw_zR z).frames) (h2 : 21 ≤ (tw_zR z).locals) (hcs : tw_zcells z ≤ (tw_zR z).cells ∧ tw_zslots z ≤ (tw_zR z).slots) (hst : (st.map fun v => v.category).sum ≤ 8) (_ : True) (kk : tw_Rf z res E σ (pc + 3) L (.int r :: st)) : tw_Rf z res E σ pc L (.ref (tw_zB z + r0) :: st) := r_callS (As := [.ref (tw_zB z + r0)]) X d (tw_m_X12_firstLand hr0 h) tw_y_X12_firstLand tw_v_X12_firstLand i hi rfl ⟨rfl, rfl, h1, h2⟩ hcs hst rfl kk
def tw_P_X12_readWater (n : Nat)  (σ : tw_Sg) : Option (tw_Sg) :=
tw_bd (tw_P_X12_readArea n σ) (fun r1 =>
tw_bd (tw_P_X12_isGood r1) (fun r2 =>
if ¬ r2 = 0 then (tw_bd (tw_P_X12_isInArea (r1 442 13) r1) (fun r3 =>
tw_lt r3 (fun (v4 : Int32) =>
tw_lt (0 : Int32) (fun (v5 : Int32) =>
tw_lp (fun (k7 : (Int32 × Int32) → Option (tw_Sg)) (a6 : Int32 × Int32) =>
if (8 : Int32) ≤ a6.2 then (tw_jn (fun (a8 : tw_Sg) =>
tw_lt (a8 442 16) (fun (v10 : Int32) =>
tw_lp (fun (k12 : (Int32 × tw_Sg) → Option (tw_Sg)) (a11 : Int32 × tw_Sg) =>
if (a11.2 442 18) < a11.1 then (tw_bd (tw_P_X12_isGood a11.2) (fun r13 =>
tw_jn (fun (a14 : tw_Sg) =>
some a14) (fun (j15 : (tw_Sg) → Option (tw_Sg)) =>
if r13 = 0 then (j15 a11.2)
else (tw_bd (tw_P_X12_ahead n a11.2) (fun r16 =>
if ¬ r16.1 = (59 : Int32) then (j15 r16.2)
else (tw_bd (tw_P_X12_firstLand n 445 r16.2) (fun r17 =>
if ¬ r17 = (-1 : Int32) then (j15 r16.2)
else (tw_bd (tw_P_X12_report (-7 : Int32) (r16.2 442 4) r16.2) (fun r18 =>
j15 r18)))))))))
else (tw_lt (a11.2 442 15) (fun (v19 : Int32) =>
tw_lp (fun (k21 : (Int32 × Int32 × tw_Sg) → Option (tw_Sg)) (a20 : Int32 × Int32 × tw_Sg) =>
if (a20.2.2 442 17) < a20.2.1 then (tw_lt (a20.1 + (1 : Int32)) (fun (v22 : Int32) =>
k12 (v22, a20.2.2)))
else (tw_ck (tw_ok (0 : Int32) (tw_ln 445)) (
tw_ck (tw_ok (((8 : Int32) + (a20.1 * (a20.2.2 445 (Int32.toNatClampNeg (0 : Int32))))) + a20.2.1) (tw_ln 445)) (tw_lt (tw_up a20.2.2 445 (Int32.toNatClampNeg (((8 : Int32) + (a20.1 * (a20.2.2 445 (Int32.toNatClampNeg (0 : Int32))))) + a20.2.1)) (1 : Int32)) (fun (σ23 : tw_Sg) =>
tw_lt (a20.2.1 + (1 : Int32)) (fun (v24 : Int32) =>
k21 (a20.1, v24, σ23))))))) n (a11.1, v19, a11.2)))) n (v10, a8))) (fun (j9 : (tw_Sg) → Option (tw_Sg)) =>
if a6.1 = 0 then (j9 r1)
else (tw_bd (tw_P_X12_report (-7 : Int32) (r1 442 14) r1) (fun r25 =>
j9 r25))))
else (tw_ck (tw_ok ((808 : Int32) + a6.2) (tw_ln 445)) (
tw_bd (tw_P_X12_isInArea (r1 445 (Int32.toNatClampNeg ((808 : Int32) + a6.2))) r1) (fun r26 =>
tw_lt (a6.1 ||| r26) (fun (v27 : Int32) =>
tw_lt (a6.2 + (1 : Int32)) (fun (v28 : Int32) =>
k7 (v27, v28))))))) n (v4, v5)))))
else (some r1)))
theorem tw_y_X12_readWater : tw_My yX12_readWater cX12_readWater 4 none 0 := ⟨List.mem_of_getElem? tw_w1415, List.mem_of_getElem? tw_w101, by decide +kernel, by decide +kernel, by decide +kernel⟩
theorem tw_v_X12_readWater : tw_Mv yX12_readWater "TreasureWalkModel" := ⟨List.mem_of_getElem? tw_w1414, List.mem_of_getElem? tw_w46, rfl⟩
set_option maxRecDepth 100000 in
set_option maxHeartbeats 4000000 in
theorem tw_m_X12_readWater {l : Launch} {B : Nat} {D : va_G} {C : Nat → ClassId} {S : Nat → Nat} {n : Nat}  {σ : tw_Sg}  {r : tw_Sg} (h : tw_P_X12_readWater n σ = some r) : tw_Met l B D C S yX12_readWater cX12_readWater 4 none ({ frames := 4, cells := 0, slots := 0, locals := 85 } : Room) [.ref (B + 442)] σ (none) r := by
  refine tw_metOfP (tw_P_X12_readWater n σ) r h (fun r => (none, r)) (by decide +kernel) (Nat.le_of_ble_eq_true rfl) ⟨rfl, rfl⟩ ?_
  intro z el eB eD eC eS hfr hlo hcs X hret hQ
  subst el eB eD eC eS
  have X : tw_X z cX12_readWater "TreasureWalkModel" 4 := X
  show tw_Rf z r _ σ 0 [(0, .ref (tw_zB z + 442))] []
  unfold tw_P_X12_readWater
  refine r_aload_n X dX12_readWater_0 rfl 0 rfl ?_
  refine r_bd (fun r1 hr1 => ?_)
  refine tw_c_X12_readArea X dX12_readWater_1 _ tw_w1416  hr1 (tw_le hfr rfl) (tw_le hlo rfl) hcs (Nat.le_of_ble_eq_true rfl) trivial ?_
  refine r_aload_n X dX12_readWater_4 rfl 0 rfl ?_
  refine r_bd (fun r2 hr2 => ?_)
  refine tw_c_X12_isGood X dX12_readWater_5 _ tw_w1371  hr2 (tw_le hfr rfl) (tw_le hlo rfl) hcs (Nat.le_of_ble_eq_true rfl) trivial ?_
  refine r_if_ne X dX12_readWater_8 (tgt := 12) (by decide) ?_ ?_
  ·
    refine r_aload_n X dX12_readWater_12 rfl 0 rfl ?_
    refine r_aload_n X dX12_readWater_13 rfl 0 rfl ?_
    refine tw_g12_13 (k := 442) (v := .int (r1 442 13)) X dX12_readWater_14 _ tw_w1265 tw_kc442 rfl ?_
    refine r_bd (fun r3 hr3 => ?_)
    refine tw_c_X12_isInArea X dX12_readWater_17 _ tw_w1420  hr3 (tw_le hfr rfl) (tw_le hlo rfl) hcs (Nat.le_of_ble_eq_true rfl) trivial ?_
    refine r_istore_n X dX12_readWater_20 rfl (by decide) (LL := fun v4 => [(1, .int v4), (0, .ref (tw_zB z + 442))]) (fun _ => rfl) (fun v4 => ?_)
    refine r_iconst X dX12_readWater_21 (v := (0 : Int32)) (by decide) ?_
    refine r_istore_n X dX12_readWater_22 rfl (by decide) (LL := fun v5 => [(2, .int v5), (1, .int v4), (0, .ref (tw_zB z + 442))]) (fun _ => rfl) (fun v5 => ?_)
    refine r_lp (α := Int32 × Int32) (σJ := fun a6 => r1) (pcJ := 23) (LJ := fun a6 => [(2, .int a6.2), (1, .int a6.1), (0, .ref (tw_zB z + 442))]) (stJ := fun a6 => []) (fun k7 hk7 a6 => ?_) n (v4, v5)
    refine r_iload_n X dX12_readWater_23 rfl 0 rfl ?_
    refine r_bipush X dX12_readWater_24 (v := (8 : Int32)) (by decide) ?_
    refine r_icmp_ge X dX12_readWater_26 (tgt := 52) (by decide) ?_ ?_
    ·
      refine r_iload_n X dX12_readWater_52 rfl 1 rfl ?_
      refine r_jn (α := tw_Sg) (σJ := fun a8 => a8) (pcJ := 66) (LJ := fun a8 => [(0, .ref (tw_zB z + 442))]) (stJ := fun a8 => []) (ok := fun a8 => True) (fun a8 hoka8 => ?_) (fun j9 hj9 => ?_)
      ·
        refine r_aload_n X dX12_readWater_66 rfl 0 rfl ?_
        refine tw_g12_16 (k := 442) (v := .int (a8 442 16)) X dX12_readWater_67 _ tw_w1268 tw_kc442 rfl ?_
        refine r_istore_n X dX12_readWater_70 rfl (by decide) (LL := fun v10 => [(2, .int v10), (0, .ref (tw_zB z + 442))]) (fun _ => rfl) (fun v10 => ?_)
        refine r_lp (α := Int32 × tw_Sg) (σJ := fun a11 => a11.2) (pcJ := 71) (LJ := fun a11 => [(2, .int a11.1), (0, .ref (tw_zB z + 442))]) (stJ := fun a11 => []) (fun k12 hk12 a11 => ?_) n (v10, a8)
        refine r_iload_n X dX12_readWater_71 rfl 0 rfl ?_
        refine r_aload_n X dX12_readWater_72 rfl 1 rfl ?_
        refine tw_g12_18 (k := 442) (v := .int (a11.2 442 18)) X dX12_readWater_73 _ tw_w1270 tw_kc442 rfl ?_
        refine r_icmp_gt X dX12_readWater_76 (tgt := 123) (by decide) ?_ ?_
        ·
          refine r_aload_n X dX12_readWater_123 rfl 1 rfl ?_
          refine r_bd (fun r13 hr13 => ?_)
          refine tw_c_X12_isGood X dX12_readWater_124 _ tw_w1371  hr13 (tw_le hfr rfl) (tw_le hlo rfl) hcs (Nat.le_of_ble_eq_true rfl) trivial ?_
          refine r_jn (α := tw_Sg) (σJ := fun a14 => a14) (pcJ := 160) (LJ := fun a14 => []) (stJ := fun a14 => []) (ok := fun a14 => True) (fun a14 hoka14 => ?_) (fun j15 hj15 => ?_)
          ·
            exact r_vret X dX12_readWater_160 hret hQ rfl
          refine r_if_eq X dX12_readWater_127 (tgt := 160) (by decide) ?_ ?_
          ·
            exact tw_Rf.sub [] rfl (hj15 a11.2 trivial)
          ·
            refine r_aload_n X dX12_readWater_130 rfl 1 rfl ?_
            refine r_bd (fun r16 hr16 => ?_)
            refine tw_c_X12_ahead X dX12_readWater_131 _ tw_w1375  hr16 (tw_le hfr rfl) (tw_le hlo rfl) hcs (Nat.le_of_ble_eq_true rfl) trivial ?_
            refine r_bipush X dX12_readWater_134 (v := (59 : Int32)) (by decide) ?_
            refine r_icmp_ne X dX12_readWater_136 (tgt := 160) (by decide) ?_ ?_
            ·
              exact tw_Rf.sub [] rfl (hj15 r16.2 trivial)
            ·
              refine r_aload_n X dX12_readWater_139 rfl 1 rfl ?_
              refine tw_g12_9 (k := 442) (v := .ref (tw_zB z + 445)) X dX12_readWater_140 _ tw_w1261 tw_kc442 rfl ?_
              refine r_bd (fun r17 hr17 => ?_)
              refine tw_c_X12_firstLand X dX12_readWater_143 _ tw_w1424 tw_kc445 hr17 (tw_le hfr rfl) (tw_le hlo rfl) hcs (Nat.le_of_ble_eq_true rfl) trivial ?_
              refine r_iconst X dX12_readWater_146 (v := (-1 : Int32)) (by decide) ?_
              refine r_icmp_ne X dX12_readWater_147 (tgt := 160) (by decide) ?_ ?_
              ·
                exact tw_Rf.sub [] rfl (hj15 r16.2 trivial)
              ·
                refine r_aload_n X dX12_readWater_150 rfl 1 rfl ?_
                refine r_bipush X dX12_readWater_151 (v := (-7 : Int32)) (by decide) ?_
                refine r_aload_n X dX12_readWater_153 rfl 1 rfl ?_
                refine tw_g12_4 (k := 442) (v := .int (r16.2 442 4)) X dX12_readWater_154 _ tw_w1256 tw_kc442 rfl ?_
                refine r_bd (fun r18 hr18 => ?_)
                refine tw_c_X12_report X dX12_readWater_157 _ tw_w1385  hr18 (tw_le hfr rfl) (tw_le hlo rfl) hcs (Nat.le_of_ble_eq_true rfl) trivial ?_
                exact tw_Rf.sub [] rfl (hj15 r18 trivial)
        ·
          refine r_aload_n X dX12_readWater_79 rfl 1 rfl ?_
          refine tw_g12_15 (k := 442) (v := .int (a11.2 442 15)) X dX12_readWater_80 _ tw_w1267 tw_kc442 rfl ?_
          refine r_istore_n X dX12_readWater_83 rfl (by decide) (LL := fun v19 => [(3, .int v19), (2, .int a11.1), (0, .ref (tw_zB z + 442))]) (fun _ => rfl) (fun v19 => ?_)
          refine r_lp (α := Int32 × Int32 × tw_Sg) (σJ := fun a20 => a20.2.2) (pcJ := 84) (LJ := fun a20 => [(3, .int a20.2.1), (2, .int a20.1), (0, .ref (tw_zB z + 442))]) (stJ := fun a20 => []) (fun k21 hk21 a20 => ?_) n (a11.1, v19, a11.2)
          refine r_iload_n X dX12_readWater_84 rfl 0 rfl ?_
          refine r_aload_n X dX12_readWater_85 rfl 2 rfl ?_
          refine tw_g12_17 (k := 442) (v := .int (a20.2.2 442 17)) X dX12_readWater_86 _ tw_w1269 tw_kc442 rfl ?_
          refine r_icmp_gt X dX12_readWater_89 (tgt := 117) (by decide) ?_ ?_
          ·
            refine r_iinc X dX12_readWater_117 1 rfl (v := (1 : Int32)) (by decide) (by decide) (LL := fun v22 => [(2, .int v22), (3, .int a20.2.1), (0, .ref (tw_zB z + 442))]) (fun _ => rfl) (fun v22 => ?_)
            refine r_goto X dX12_readWater_120 (tgt := 71) (by decide) ?_
            exact tw_Rf.sub [0, 2] rfl (hk12 (v22, a20.2.2))
          ·
            refine r_aload_n X dX12_readWater_92 rfl 2 rfl ?_
            refine tw_g12_9 (k := 442) (v := .ref (tw_zB z + 445)) X dX12_readWater_93 _ tw_w1261 tw_kc442 rfl ?_
            refine r_bipush X dX12_readWater_96 (v := (8 : Int32)) (by decide) ?_
            refine r_iload_n X dX12_readWater_98 rfl 1 rfl ?_
            refine r_aload_n X dX12_readWater_99 rfl 2 rfl ?_
            refine tw_g12_9 (k := 442) (v := .ref (tw_zB z + 445)) X dX12_readWater_100 _ tw_w1261 tw_kc442 rfl ?_
            refine r_iconst X dX12_readWater_103 (v := (0 : Int32)) (by decide) ?_
            refine r_iald (k := 445) X dX12_readWater_104 tw_kc445 ?_
            refine r_imul X dX12_readWater_105 ?_
            refine r_iadd X dX12_readWater_106 ?_
            refine r_iload_n X dX12_readWater_107 rfl 0 rfl ?_
            refine r_iadd X dX12_readWater_108 ?_
            refine r_iconst X dX12_readWater_109 (v := (1 : Int32)) (by decide) ?_
            refine r_iast (k := 445) X dX12_readWater_110 tw_kc445 (fun σ23 => ?_)
            refine r_iinc X dX12_readWater_111 0 rfl (v := (1 : Int32)) (by decide) (by decide) (LL := fun v24 => [(3, .int v24), (2, .int a20.1), (0, .ref (tw_zB z + 442))]) (fun _ => rfl) (fun v24 => ?_)
            refine r_goto X dX12_readWater_114 (tgt := 84) (by decide) ?_
            exact hk21 (a20.1, v24, σ23)
      refine r_if_eq X dX12_readWater_53 (tgt := 66) (by decide) ?_ ?_
      ·
        exact tw_Rf.sub [2] rfl (hj9 r1 trivial)
      ·
        refine r_aload_n X dX12_readWater_56 rfl 2 rfl ?_
        refine r_bipush X dX12_readWater_57 (v := (-7 : Int32)) (by decide) ?_
        refine r_aload_n X dX12_readWater_59 rfl 2 rfl ?_
        refine tw_g12_14 (k := 442) (v := .int (r1 442 14)) X dX12_readWater_60 _ tw_w1266 tw_kc442 rfl ?_
        refine r_bd (fun r25 hr25 => ?_)
        refine tw_c_X12_report X dX12_readWater_63 _ tw_w1385  hr25 (tw_le hfr rfl) (tw_le hlo rfl) hcs (Nat.le_of_ble_eq_true rfl) trivial ?_
        exact tw_Rf.sub [2] rfl (hj9 r25 trivial)
    ·
      refine r_iload_n X dX12_readWater_29 rfl 1 rfl ?_
      refine r_aload_n X dX12_readWater_30 rfl 2 rfl ?_
      refine r_aload_n X dX12_readWater_31 rfl 2 rfl ?_
      refine tw_g12_9 (k := 442) (v := .ref (tw_zB z + 445)) X dX12_readWater_32 _ tw_w1261 tw_kc442 rfl ?_
      refine r_sipush X dX12_readWater_35 (v := (808 : Int32)) (by decide) ?_
      refine r_iload_n X dX12_readWater_38 rfl 0 rfl ?_
      refine r_iadd X dX12_readWater_39 ?_
      refine r_iald (k := 445) X dX12_readWater_40 tw_kc445 ?_
      refine r_bd (fun r26 hr26 => ?_)
      refine tw_c_X12_isInArea X dX12_readWater_41 _ tw_w1420  hr26 (tw_le hfr rfl) (tw_le hlo rfl) hcs (Nat.le_of_ble_eq_true rfl) trivial ?_
      refine r_ior X dX12_readWater_44 ?_
      refine r_istore_n X dX12_readWater_45 rfl (by decide) (LL := fun v27 => [(1, .int v27), (2, .int a6.2), (0, .ref (tw_zB z + 442))]) (fun _ => rfl) (fun v27 => ?_)
      refine r_iinc X dX12_readWater_46 1 rfl (v := (1 : Int32)) (by decide) (by decide) (LL := fun v28 => [(2, .int v28), (1, .int v27), (0, .ref (tw_zB z + 442))]) (fun _ => rfl) (fun v28 => ?_)
      refine r_goto X dX12_readWater_49 (tgt := 23) (by decide) ?_
      exact hk7 (v27, v28)
  ·
    exact r_vret X dX12_readWater_11 hret hQ rfl
theorem tw_c_X12_readWater {ρ : Type} {z : tw_Z} {cc : ByteArray} {own : String} {nL pc : Nat} {σ : tw_Sg} {L : List (Nat × Value)} {st : List Value} {ix : Nat} {n : Nat}  (X : tw_X z cc own nL) (d : decode cc pc = .ok (.invokevirtual ix, 3)) (i : Nat) (hi : lw_tbl[i]? = some (.methodLink own ix yX12_readWater))  {res : ρ} {E : Option ρ} {r : tw_Sg} (h : tw_P_X12_readWater n σ = some r) (h1 : 5 ≤ (tw_zR z).frames) (h2 : 108 ≤ (tw_zR z).locals) (hcs : tw_zcells z ≤ (tw_zR z).cells ∧ tw_zslots z ≤ (tw_zR z).slots) (hst : (st.map fun v => v.category).sum ≤ 8) (_ : True) (kk : tw_Rf z res E r (pc + 3) L (st)) : tw_Rf z res E σ pc L (.ref (tw_zB z + 442) :: st) := r_callV (As := []) X d (tw_m_X12_readWater  h) tw_y_X12_readWater tw_v_X12_readWater i hi rfl (tw_kd_lt tw_kc442 (by decide)) (tw_E12 tw_kc442) rfl ⟨rfl, rfl, h1, h2⟩ hcs hst rfl kk
def tw_P_X12_bendAt (x0 : Int32) (σ : tw_Sg) : Option (Int32) :=
some ((816 : Int32) + ((5 : Int32) * x0))
theorem tw_y_X12_bendAt : tw_My yX12_bendAt cX12_bendAt 1 (some .int) 1 := ⟨List.mem_of_getElem? tw_w1436, List.mem_of_getElem? tw_w101, by decide +kernel, by decide +kernel, by decide +kernel⟩
theorem tw_v_X12_bendAt : tw_Ms yX12_bendAt := List.mem_of_getElem? tw_w1435
set_option maxRecDepth 100000 in
set_option maxHeartbeats 4000000 in
theorem tw_m_X12_bendAt {l : Launch} {B : Nat} {D : va_G} {C : Nat → ClassId} {S : Nat → Nat} {x0 : Int32} {σ : tw_Sg}  {r : Int32} (h : tw_P_X12_bendAt x0 σ = some r) : tw_Met l B D C S yX12_bendAt cX12_bendAt 1 (some .int) ({ frames := 0, cells := 0, slots := 0, locals := 0 } : Room) [.int x0] σ (some (.int r)) σ := by
  refine tw_metOfP (tw_P_X12_bendAt x0 σ) r h (fun r => (some (.int r), σ)) (by decide +kernel) (Nat.le_of_ble_eq_true rfl) ⟨rfl, rfl⟩ ?_
  intro z el eB eD eC eS hfr hlo hcs X hret hQ
  subst el eB eD eC eS
  have X : tw_X z cX12_bendAt "TreasureWalkModel" 1 := X
  show tw_Rf z r _ σ 0 [(0, .int x0)] []
  unfold tw_P_X12_bendAt
  refine r_sipush X dX12_bendAt_0 (v := (816 : Int32)) (by decide) ?_
  refine r_iconst X dX12_bendAt_3 (v := (5 : Int32)) (by decide) ?_
  refine r_iload_n X dX12_bendAt_4 rfl 0 rfl ?_
  refine r_imul X dX12_bendAt_5 ?_
  refine r_iadd X dX12_bendAt_6 ?_
  exact r_iret X dX12_bendAt_7 hret hQ rfl
theorem tw_c_X12_bendAt {ρ : Type} {z : tw_Z} {cc : ByteArray} {own : String} {nL pc : Nat} {σ : tw_Sg} {L : List (Nat × Value)} {st : List Value} {ix : Nat} {x0 : Int32} (X : tw_X z cc own nL) (d : decode cc pc = .ok (.invokestatic ix, 3)) (i : Nat) (hi : lw_tbl[i]? = some (.methodLink own ix yX12_bendAt))  {res : ρ} {E : Option ρ} {r : Int32} (h : tw_P_X12_bendAt x0 σ = some r) (h1 : 1 ≤ (tw_zR z).frames) (h2 : 20 ≤ (tw_zR z).locals) (hcs : tw_zcells z ≤ (tw_zR z).cells ∧ tw_zslots z ≤ (tw_zR z).slots) (hst : (st.map fun v => v.category).sum ≤ 8) (_ : True) (kk : tw_Rf z res E σ (pc + 3) L (.int r :: st)) : tw_Rf z res E σ pc L (.int x0 :: st) := r_callS (As := [.int x0]) X d (tw_m_X12_bendAt  h) tw_y_X12_bendAt tw_v_X12_bendAt i hi rfl ⟨rfl, rfl, h1, h2⟩ hcs hst rfl kk
def tw_P_X12_readBend (n : Nat) (x0 : Int32) (σ : tw_Sg) : Option (tw_Sg) :=
tw_ck (tw_ok (2 : Int32) (tw_ln 445)) (
tw_jn (fun (a1 : tw_Sg) =>
tw_bd (tw_P_X12_readArea n a1) (fun r3 =>
tw_bd (tw_P_X12_takeWord n 6 r3) (fun r4 =>
tw_lt r4.1 (fun (v5 : Int32) =>
tw_bd (tw_P_X12_isGood r4.2) (fun r6 =>
tw_jn (fun (a7 : tw_Sg) =>
tw_bd (tw_P_X12_number n (1 : Int32) (3 : Int32) a7) (fun r9 =>
tw_lt r9.1 (fun (v10 : Int32) =>
tw_bd (tw_P_X12_isGood r9.2) (fun r11 =>
if ¬ r11 = 0 then (tw_ck (tw_ok (2 : Int32) (tw_ln 445)) (
tw_bd (tw_P_X12_bendAt (r9.2 445 (Int32.toNatClampNeg (2 : Int32))) r9.2) (fun r12 =>
tw_lt r12 (fun (v13 : Int32) =>
tw_ck (tw_ok v13 (tw_ln 445)) (tw_lt (tw_up r9.2 445 (Int32.toNatClampNeg v13) (r9.2 442 15)) (fun (σ14 : tw_Sg) =>
tw_ck (tw_ok (v13 + (1 : Int32)) (tw_ln 445)) (tw_lt (tw_up σ14 445 (Int32.toNatClampNeg (v13 + (1 : Int32))) (σ14 442 16)) (fun (σ15 : tw_Sg) =>
tw_ck (tw_ok (v13 + (2 : Int32)) (tw_ln 445)) (tw_lt (tw_up σ15 445 (Int32.toNatClampNeg (v13 + (2 : Int32))) (σ15 442 17)) (fun (σ16 : tw_Sg) =>
tw_ck (tw_ok (v13 + (3 : Int32)) (tw_ln 445)) (tw_lt (tw_up σ16 445 (Int32.toNatClampNeg (v13 + (3 : Int32))) (σ16 442 18)) (fun (σ17 : tw_Sg) =>
tw_jn (fun (a18 : Int32) =>
tw_ck (tw_ok (v13 + (4 : Int32)) (tw_ln 445)) (tw_lt (tw_up σ17 445 (Int32.toNatClampNeg (v13 + (4 : Int32))) a18) (fun (σ20 : tw_Sg) =>
tw_ck (tw_ok (2 : Int32) (tw_ln 445)) (
tw_ck (tw_ok (2 : Int32) (tw_ln 445)) (tw_lt (tw_up σ20 445 (Int32.toNatClampNeg (2 : Int32)) ((σ20 445 (Int32.toNatClampNeg (2 : Int32))) + (1 : Int32))) (fun (σ21 : tw_Sg) =>
some σ21)))))) (fun (j19 : (Int32) → Option (tw_Sg)) =>
if v5 = 0 then (j19 v10)
else (j19 (-v10)))))))))))))))
else (some r9.2))))) (fun (j8 : (tw_Sg) → Option (tw_Sg)) =>
if r6 = 0 then (j8 r4.2)
else (if ¬ v5 = 0 then (j8 r4.2)
else (tw_bd (tw_P_X12_takeWord n 7 r4.2) (fun r22 =>
if ¬ r22.1 = 0 then (j8 r22.2)
else (tw_bd (tw_P_X12_report (-2 : Int32) (r22.2 442 4) r22.2) (fun r23 =>
j8 r23))))))))))) (fun (j2 : (tw_Sg) → Option (tw_Sg)) =>
if ¬ (σ 445 (Int32.toNatClampNeg (2 : Int32))) = (8 : Int32) then (j2 σ)
else (tw_bd (tw_P_X12_report (-6 : Int32) x0 σ) (fun r24 =>
j2 r24))))
theorem tw_y_X12_readBend : tw_My yX12_readBend cX12_readBend 5 none 1 := ⟨List.mem_of_getElem? tw_w1431, List.mem_of_getElem? tw_w101, by decide +kernel, by decide +kernel, by decide +kernel⟩
theorem tw_v_X12_readBend : tw_Mv yX12_readBend "TreasureWalkModel" := ⟨List.mem_of_getElem? tw_w1430, List.mem_of_getElem? tw_w49, rfl⟩
set_option maxRecDepth 100000 in
set_option maxHeartbeats 4000000 in
theorem tw_m_X12_readBend {l : Launch} {B : Nat} {D : va_G} {C : Nat → ClassId} {S : Nat → Nat} {n : Nat} {x0 : Int32} {σ : tw_Sg}  {r : tw_Sg} (h : tw_P_X12_readBend n x0 σ = some r) : tw_Met l B D C S yX12_readBend cX12_readBend 5 none ({ frames := 7, cells := 0, slots := 0, locals := 142 } : Room) [.ref (B + 442), .int x0] σ (none) r := by
  refine tw_metOfP (tw_P_X12_readBend n x0 σ) r h (fun r => (none, r)) (by decide +kernel) (Nat.le_of_ble_eq_true rfl) ⟨rfl, rfl⟩ ?_
  intro z el eB eD eC eS hfr hlo hcs X hret hQ
  subst el eB eD eC eS
  have X : tw_X z cX12_readBend "TreasureWalkModel" 5 := X
  show tw_Rf z r _ σ 0 [(0, .ref (tw_zB z + 442)), (1, .int x0)] []
  unfold tw_P_X12_readBend
  refine r_aload_n X dX12_readBend_0 rfl 0 rfl ?_
  refine tw_g12_9 (k := 442) (v := .ref (tw_zB z + 445)) X dX12_readBend_1 _ tw_w1261 tw_kc442 rfl ?_
  refine r_iconst X dX12_readBend_4 (v := (2 : Int32)) (by decide) ?_
  refine r_iald (k := 445) X dX12_readBend_5 tw_kc445 ?_
  refine r_bipush X dX12_readBend_6 (v := (8 : Int32)) (by decide) ?_
  refine r_jn (α := tw_Sg) (σJ := fun a1 => a1) (pcJ := 18) (LJ := fun a1 => [(0, .ref (tw_zB z + 442))]) (stJ := fun a1 => []) (ok := fun a1 => True) (fun a1 hoka1 => ?_) (fun j2 hj2 => ?_)
  ·
    refine r_aload_n X dX12_readBend_18 rfl 0 rfl ?_
    refine r_bd (fun r3 hr3 => ?_)
    refine tw_c_X12_readArea X dX12_readBend_19 _ tw_w1416  hr3 (tw_le hfr rfl) (tw_le hlo rfl) hcs (Nat.le_of_ble_eq_true rfl) trivial ?_
    refine r_aload_n X dX12_readBend_22 rfl 0 rfl ?_
    refine r_ldcS X dX12_readBend_23 (j := 6) tw_l_M_159 ?_
    refine r_bd (fun r4 hr4 => ?_)
    refine tw_c_X12_takeWord X dX12_readBend_25 _ tw_w1367 (by decide) hr4 (tw_le hfr rfl) (tw_le hlo rfl) hcs (Nat.le_of_ble_eq_true rfl) trivial ?_
    refine r_istore_n X dX12_readBend_28 rfl (by decide) (LL := fun v5 => [(2, .int v5), (0, .ref (tw_zB z + 442))]) (fun _ => rfl) (fun v5 => ?_)
    refine r_aload_n X dX12_readBend_29 rfl 1 rfl ?_
    refine r_bd (fun r6 hr6 => ?_)
    refine tw_c_X12_isGood X dX12_readBend_30 _ tw_w1371  hr6 (tw_le hfr rfl) (tw_le hlo rfl) hcs (Nat.le_of_ble_eq_true rfl) trivial ?_
    refine r_jn (α := tw_Sg) (σJ := fun a7 => a7) (pcJ := 59) (LJ := fun a7 => [(2, .int v5), (0, .ref (tw_zB z + 442))]) (stJ := fun a7 => []) (ok := fun a7 => True) (fun a7 hoka7 => ?_) (fun j8 hj8 => ?_)
    ·
      refine r_aload_n X dX12_readBend_59 rfl 1 rfl ?_
      refine r_iconst X dX12_readBend_60 (v := (1 : Int32)) (by decide) ?_
      refine r_iconst X dX12_readBend_61 (v := (3 : Int32)) (by decide) ?_
      refine r_bd (fun r9 hr9 => ?_)
      refine tw_c_X12_number X dX12_readBend_62 _ tw_w1389  hr9 (tw_le hfr rfl) (tw_le hlo rfl) hcs (Nat.le_of_ble_eq_true rfl) trivial ?_
      refine r_istore_n X dX12_readBend_65 rfl (by decide) (LL := fun v10 => [(3, .int v10), (2, .int v5), (0, .ref (tw_zB z + 442))]) (fun _ => rfl) (fun v10 => ?_)
      refine r_aload_n X dX12_readBend_66 rfl 2 rfl ?_
      refine r_bd (fun r11 hr11 => ?_)
      refine tw_c_X12_isGood X dX12_readBend_67 _ tw_w1371  hr11 (tw_le hfr rfl) (tw_le hlo rfl) hcs (Nat.le_of_ble_eq_true rfl) trivial ?_
      refine r_if_ne X dX12_readBend_70 (tgt := 74) (by decide) ?_ ?_
      ·
        refine r_aload_n X dX12_readBend_74 rfl 2 rfl ?_
        refine tw_g12_9 (k := 442) (v := .ref (tw_zB z + 445)) X dX12_readBend_75 _ tw_w1261 tw_kc442 rfl ?_
        refine r_iconst X dX12_readBend_78 (v := (2 : Int32)) (by decide) ?_
        refine r_iald (k := 445) X dX12_readBend_79 tw_kc445 ?_
        refine r_bd (fun r12 hr12 => ?_)
        refine tw_c_X12_bendAt X dX12_readBend_80 _ tw_w1434  hr12 (tw_le hfr rfl) (tw_le hlo rfl) hcs (Nat.le_of_ble_eq_true rfl) trivial ?_
        refine r_istore X dX12_readBend_83 (by decide) (LL := fun v13 => [(4, .int v13), (3, .int v10), (2, .int v5), (0, .ref (tw_zB z + 442))]) (fun _ => rfl) (fun v13 => ?_)
        refine r_aload_n X dX12_readBend_85 rfl 3 rfl ?_
        refine tw_g12_9 (k := 442) (v := .ref (tw_zB z + 445)) X dX12_readBend_86 _ tw_w1261 tw_kc442 rfl ?_
        refine r_iload X dX12_readBend_89 0 rfl ?_
        refine r_aload_n X dX12_readBend_91 rfl 3 rfl ?_
        refine tw_g12_15 (k := 442) (v := .int (r9.2 442 15)) X dX12_readBend_92 _ tw_w1267 tw_kc442 rfl ?_
        refine r_iast (k := 445) X dX12_readBend_95 tw_kc445 (fun σ14 => ?_)
        refine r_aload_n X dX12_readBend_96 rfl 3 rfl ?_
        refine tw_g12_9 (k := 442) (v := .ref (tw_zB z + 445)) X dX12_readBend_97 _ tw_w1261 tw_kc442 rfl ?_
        refine r_iload X dX12_readBend_100 0 rfl ?_
        refine r_iconst X dX12_readBend_102 (v := (1 : Int32)) (by decide) ?_
        refine r_iadd X dX12_readBend_103 ?_
        refine r_aload_n X dX12_readBend_104 rfl 3 rfl ?_
        refine tw_g12_16 (k := 442) (v := .int (σ14 442 16)) X dX12_readBend_105 _ tw_w1268 tw_kc442 rfl ?_
        refine r_iast (k := 445) X dX12_readBend_108 tw_kc445 (fun σ15 => ?_)
        refine r_aload_n X dX12_readBend_109 rfl 3 rfl ?_
        refine tw_g12_9 (k := 442) (v := .ref (tw_zB z + 445)) X dX12_readBend_110 _ tw_w1261 tw_kc442 rfl ?_
        refine r_iload X dX12_readBend_113 0 rfl ?_
        refine r_iconst X dX12_readBend_115 (v := (2 : Int32)) (by decide) ?_
        refine r_iadd X dX12_readBend_116 ?_
        refine r_aload_n X dX12_readBend_117 rfl 3 rfl ?_
        refine tw_g12_17 (k := 442) (v := .int (σ15 442 17)) X dX12_readBend_118 _ tw_w1269 tw_kc442 rfl ?_
        refine r_iast (k := 445) X dX12_readBend_121 tw_kc445 (fun σ16 => ?_)
        refine r_aload_n X dX12_readBend_122 rfl 3 rfl ?_
        refine tw_g12_9 (k := 442) (v := .ref (tw_zB z + 445)) X dX12_readBend_123 _ tw_w1261 tw_kc442 rfl ?_
        refine r_iload X dX12_readBend_126 0 rfl ?_
        refine r_iconst X dX12_readBend_128 (v := (3 : Int32)) (by decide) ?_
        refine r_iadd X dX12_readBend_129 ?_
        refine r_aload_n X dX12_readBend_130 rfl 3 rfl ?_
        refine tw_g12_18 (k := 442) (v := .int (σ16 442 18)) X dX12_readBend_131 _ tw_w1270 tw_kc442 rfl ?_
        refine r_iast (k := 445) X dX12_readBend_134 tw_kc445 (fun σ17 => ?_)
        refine r_aload_n X dX12_readBend_135 rfl 3 rfl ?_
        refine tw_g12_9 (k := 442) (v := .ref (tw_zB z + 445)) X dX12_readBend_136 _ tw_w1261 tw_kc442 rfl ?_
        refine r_iload X dX12_readBend_139 0 rfl ?_
        refine r_iconst X dX12_readBend_141 (v := (4 : Int32)) (by decide) ?_
        refine r_iadd X dX12_readBend_142 ?_
        refine r_iload_n X dX12_readBend_143 rfl 2 rfl ?_
        refine r_jn (α := Int32) (σJ := fun a18 => σ17) (pcJ := 153) (LJ := fun a18 => [(0, .ref (tw_zB z + 442))]) (stJ := fun a18 => [.int a18, .int (v13 + (4 : Int32)), .ref (tw_zB z + 445)]) (ok := fun a18 => True) (fun a18 hoka18 => ?_) (fun j19 hj19 => ?_)
        ·
          refine r_iast (k := 445) X dX12_readBend_153 tw_kc445 (fun σ20 => ?_)
          refine r_aload_n X dX12_readBend_154 rfl 0 rfl ?_
          refine tw_g12_9 (k := 442) (v := .ref (tw_zB z + 445)) X dX12_readBend_155 _ tw_w1261 tw_kc442 rfl ?_
          refine r_iconst X dX12_readBend_158 (v := (2 : Int32)) (by decide) ?_
          refine r_dup2 X dX12_readBend_159 rfl rfl ?_
          refine r_iald (k := 445) X dX12_readBend_160 tw_kc445 ?_
          refine r_iconst X dX12_readBend_161 (v := (1 : Int32)) (by decide) ?_
          refine r_iadd X dX12_readBend_162 ?_
          refine r_iast (k := 445) X dX12_readBend_163 tw_kc445 (fun σ21 => ?_)
          exact r_vret X dX12_readBend_164 hret hQ rfl
        refine r_if_eq X dX12_readBend_144 (tgt := 152) (by decide) ?_ ?_
        ·
          refine r_iload_n X dX12_readBend_152 rfl 1 rfl ?_
          exact tw_Rf.sub [3] rfl (hj19 v10 trivial)
        ·
          refine r_iload_n X dX12_readBend_147 rfl 1 rfl ?_
          refine r_ineg X dX12_readBend_148 ?_
          refine r_goto X dX12_readBend_149 (tgt := 153) (by decide) ?_
          exact tw_Rf.sub [3] rfl (hj19 (-v10) trivial)
      ·
        exact r_vret X dX12_readBend_73 hret hQ rfl
    refine r_if_eq X dX12_readBend_33 (tgt := 59) (by decide) ?_ ?_
    ·
      exact hj8 r4.2 trivial
    ·
      refine r_iload_n X dX12_readBend_36 rfl 0 rfl ?_
      refine r_if_ne X dX12_readBend_37 (tgt := 59) (by decide) ?_ ?_
      ·
        exact hj8 r4.2 trivial
      ·
        refine r_aload_n X dX12_readBend_40 rfl 1 rfl ?_
        refine r_ldcS X dX12_readBend_41 (j := 7) tw_l_M_165 ?_
        refine r_bd (fun r22 hr22 => ?_)
        refine tw_c_X12_takeWord X dX12_readBend_43 _ tw_w1367 (by decide) hr22 (tw_le hfr rfl) (tw_le hlo rfl) hcs (Nat.le_of_ble_eq_true rfl) trivial ?_
        refine r_if_ne X dX12_readBend_46 (tgt := 59) (by decide) ?_ ?_
        ·
          exact hj8 r22.2 trivial
        ·
          refine r_aload_n X dX12_readBend_49 rfl 1 rfl ?_
          refine r_bipush X dX12_readBend_50 (v := (-2 : Int32)) (by decide) ?_
          refine r_aload_n X dX12_readBend_52 rfl 1 rfl ?_
          refine tw_g12_4 (k := 442) (v := .int (r22.2 442 4)) X dX12_readBend_53 _ tw_w1256 tw_kc442 rfl ?_
          refine r_bd (fun r23 hr23 => ?_)
          refine tw_c_X12_report X dX12_readBend_56 _ tw_w1385  hr23 (tw_le hfr rfl) (tw_le hlo rfl) hcs (Nat.le_of_ble_eq_true rfl) trivial ?_
          exact hj8 r23 trivial
  refine r_icmp_ne X dX12_readBend_8 (tgt := 18) (by decide) ?_ ?_
  ·
    exact tw_Rf.sub [0] rfl (hj2 σ trivial)
  ·
    refine r_aload_n X dX12_readBend_11 rfl 0 rfl ?_
    refine r_bipush X dX12_readBend_12 (v := (-6 : Int32)) (by decide) ?_
    refine r_iload_n X dX12_readBend_14 rfl 1 rfl ?_
    refine r_bd (fun r24 hr24 => ?_)
    refine tw_c_X12_report X dX12_readBend_15 _ tw_w1385  hr24 (tw_le hfr rfl) (tw_le hlo rfl) hcs (Nat.le_of_ble_eq_true rfl) trivial ?_
    exact tw_Rf.sub [0] rfl (hj2 r24 trivial)
theorem tw_c_X12_readBend {ρ : Type} {z : tw_Z} {cc : ByteArray} {own : String} {nL pc : Nat} {σ : tw_Sg} {L : List (Nat × Value)} {st : List Value} {ix : Nat} {n : Nat} {x0 : Int32} (X : tw_X z cc own nL) (d : decode cc pc = .ok (.invokevirtual ix, 3)) (i : Nat) (hi : lw_tbl[i]? = some (.methodLink own ix yX12_readBend))  {res : ρ} {E : Option ρ} {r : tw_Sg} (h : tw_P_X12_readBend n x0 σ = some r) (h1 : 8 ≤ (tw_zR z).frames) (h2 : 166 ≤ (tw_zR z).locals) (hcs : tw_zcells z ≤ (tw_zR z).cells ∧ tw_zslots z ≤ (tw_zR z).slots) (hst : (st.map fun v => v.category).sum ≤ 8) (_ : True) (kk : tw_Rf z res E r (pc + 3) L (st)) : tw_Rf z res E σ pc L (.int x0 :: .ref (tw_zB z + 442) :: st) := r_callV (As := [.int x0]) X d (tw_m_X12_readBend  h) tw_y_X12_readBend tw_v_X12_readBend i hi rfl (tw_kd_lt tw_kc442 (by decide)) (tw_E12 tw_kc442) rfl ⟨rfl, rfl, h1, h2⟩ hcs hst rfl kk
