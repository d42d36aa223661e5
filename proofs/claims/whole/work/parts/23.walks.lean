def tw_P_X12_tour (n : Nat)  (σ : tw_Sg) : Option (Int32 × tw_Sg) :=
tw_lt (tw_up σ 442 0 (0 : Int32)) (fun (σ1 : tw_Sg) =>
tw_lt (0 : Int32) (fun (v2 : Int32) =>
tw_bd (tw_P_X12_count n (1 : Int32) σ1) (fun r3 =>
if r3.1 ≤ (9 : Int32) then (tw_ck (tw_ok (4 : Int32) (tw_ln 444)) (
tw_bd (tw_P_X12_layFar n (r3.2 444 (Int32.toNatClampNeg (4 : Int32))) r3.2) (fun r4 =>
tw_lt (0 : Int32) (fun (v5 : Int32) =>
tw_lp (fun (k7 : (Int32 × Int32 × tw_Sg) → Option (Int32 × tw_Sg)) (a6 : Int32 × Int32 × tw_Sg) =>
tw_bd (tw_P_X12_cells a6.2.2) (fun r8 =>
if r8 ≤ a6.2.1 then (tw_lt (0 : Int32) (fun (v9 : Int32) =>
tw_lp (fun (k11 : (Int32 × Int32 × tw_Sg) → Option (Int32 × tw_Sg)) (a10 : Int32 × Int32 × tw_Sg) =>
if a10.1 ≤ a10.2.1 then (tw_jn (fun (a12 : Int32 × tw_Sg) =>
some (a12.1, a12.2)) (fun (j13 : (Int32 × tw_Sg) → Option (Int32 × tw_Sg)) =>
if ¬ a10.1 = 0 then (tw_bd (tw_P_X12_shortest n a10.1 a10.2.2) (fun r14 =>
j13 (r14.1, r14.2)))
else (j13 ((0 : Int32), a10.2.2))))
else (tw_ck (tw_ok a10.2.1 (tw_ln 511)) (
tw_bd (tw_P_X12_layFar n (a10.2.2 511 (Int32.toNatClampNeg a10.2.1)) a10.2.2) (fun r15 =>
tw_lt (0 : Int32) (fun (v16 : Int32) =>
tw_lp (fun (k18 : (Int32 × Int32 × Int32 × tw_Sg) → Option (Int32 × tw_Sg)) (a17 : Int32 × Int32 × Int32 × tw_Sg) =>
if a17.1 ≤ a17.2.2.1 then (tw_lt (a17.2.1 + (1 : Int32)) (fun (v19 : Int32) =>
k11 (a17.1, v19, a17.2.2.2)))
else (tw_ck (tw_ok a17.2.1 (tw_ln 513)) (
tw_ck (tw_ok a17.2.2.1 (tw_ln 511)) (
tw_ck (tw_ok (a17.2.2.2 511 (Int32.toNatClampNeg a17.2.2.1)) (tw_ln 508)) (
tw_ck (tw_ok a17.2.2.1 (tw_ln (513 + 1 + 1 * Int32.toNatClampNeg a17.2.1))) (tw_lt (tw_up a17.2.2.2 (513 + 1 + 1 * Int32.toNatClampNeg a17.2.1) (Int32.toNatClampNeg a17.2.2.1) (a17.2.2.2 508 (Int32.toNatClampNeg (a17.2.2.2 511 (Int32.toNatClampNeg a17.2.2.1))))) (fun (σ21 : tw_Sg) =>
tw_lt (a17.2.2.1 + (1 : Int32)) (fun (v22 : Int32) =>
k18 (a17.1, a17.2.1, v22, σ21))))))))) n (a10.1, a10.2.1, v16, r15)))))) n (a6.1, v9, a6.2.2)))
else (tw_bd (tw_P_X12_isLeft n a6.2.1 a6.2.2) (fun r23 =>
tw_jn (fun (a24 : Int32 × tw_Sg) =>
tw_lt (a6.2.1 + (1 : Int32)) (fun (v26 : Int32) =>
k7 (a24.1, v26, a24.2))) (fun (j25 : (Int32 × tw_Sg) → Option (Int32 × tw_Sg)) =>
if ¬ r23.1 = 0 then (tw_ck (tw_ok a6.2.1 (tw_ln 508)) (
if ¬ (r23.2 508 (Int32.toNatClampNeg a6.2.1)) = (-1 : Int32) then (tw_ck (tw_ok a6.1 (tw_ln 511)) (tw_lt (tw_up r23.2 511 (Int32.toNatClampNeg a6.1) a6.2.1) (fun (σ27 : tw_Sg) =>
tw_ck (tw_ok a6.2.1 (tw_ln 508)) (
tw_ck (tw_ok a6.1 (tw_ln 512)) (tw_lt (tw_up σ27 512 (Int32.toNatClampNeg a6.1) (σ27 508 (Int32.toNatClampNeg a6.2.1))) (fun (σ28 : tw_Sg) =>
tw_lt (a6.1 + (1 : Int32)) (fun (v29 : Int32) =>
j25 (v29, σ28))))))))
else (some ((-1 : Int32), r23.2))))
else (j25 (a6.1, r23.2))))))) n (v2, v5, r4)))))
else (some ((-2 : Int32), r3.2)))))
theorem tw_y_X12_tour : tw_My yX12_tour cX12_tour 4 (some .int) 0 := ⟨List.mem_of_getElem? tw_w1659, List.mem_of_getElem? tw_w101, by decide +kernel, by decide +kernel, by decide +kernel⟩
theorem tw_v_X12_tour : tw_Mv yX12_tour "TreasureWalkModel" := ⟨List.mem_of_getElem? tw_w1657, List.mem_of_getElem? tw_w1658, rfl⟩
set_option maxRecDepth 100000 in
set_option maxHeartbeats 4000000 in
theorem tw_m_X12_tour {l : Launch} {B : Nat} {D : va_G} {C : Nat → ClassId} {S : Nat → Nat} {n : Nat}  {σ : tw_Sg}  {r : Int32 × tw_Sg} (h : tw_P_X12_tour n σ = some r) : tw_Met l B D C S yX12_tour cX12_tour 4 (some .int) ({ frames := 10, cells := 0, slots := 0, locals := 238 } : Room) [.ref (B + 442)] σ (some (.int r.1)) r.2 := by
  refine tw_metOfP (tw_P_X12_tour n σ) r h (fun r => (some (.int r.1), r.2)) (by decide +kernel) (Nat.le_of_ble_eq_true rfl) ⟨rfl, rfl⟩ ?_
  intro z el eB eD eC eS hfr hlo hcs X hret hQ
  subst el eB eD eC eS
  have X : tw_X z cX12_tour "TreasureWalkModel" 4 := X
  show tw_Rf z r _ σ 0 [(0, .ref (tw_zB z + 442))] []
  unfold tw_P_X12_tour
  refine r_aload_n X dX12_tour_0 rfl 0 rfl ?_
  refine r_iconst X dX12_tour_1 (v := (0 : Int32)) (by decide) ?_
  refine tw_s12_0 (k := 442) X dX12_tour_2 _ tw_w1252 tw_kc442 (fun σ1 => ?_)
  refine r_iconst X dX12_tour_5 (v := (0 : Int32)) (by decide) ?_
  refine r_istore_n X dX12_tour_6 rfl (by decide) (LL := fun v2 => [(1, .int v2), (0, .ref (tw_zB z + 442))]) (fun _ => rfl) (fun v2 => ?_)
  refine r_aload_n X dX12_tour_7 rfl 1 rfl ?_
  refine r_iconst X dX12_tour_8 (v := (1 : Int32)) (by decide) ?_
  refine r_bd (fun r3 hr3 => ?_)
  refine tw_c_X12_count X dX12_tour_9 _ tw_w1519  hr3 (tw_le hfr rfl) (tw_le hlo rfl) hcs (Nat.le_of_ble_eq_true rfl) trivial ?_
  refine r_bipush X dX12_tour_12 (v := (9 : Int32)) (by decide) ?_
  refine r_icmp_le X dX12_tour_14 (tgt := 20) (by decide) ?_ ?_
  ·
    refine r_aload_n X dX12_tour_20 rfl 1 rfl ?_
    refine r_aload_n X dX12_tour_21 rfl 1 rfl ?_
    refine tw_g12_8 (k := 442) (v := .ref (tw_zB z + 444)) X dX12_tour_22 _ tw_w1260 tw_kc442 rfl ?_
    refine r_iconst X dX12_tour_25 (v := (4 : Int32)) (by decide) ?_
    refine r_iald (k := 444) X dX12_tour_26 tw_kc444 ?_
    refine r_bd (fun r4 hr4 => ?_)
    refine tw_c_X12_layFar X dX12_tour_27 _ tw_w1648  hr4 (tw_le hfr rfl) (tw_le hlo rfl) hcs (Nat.le_of_ble_eq_true rfl) trivial ?_
    refine r_iconst X dX12_tour_30 (v := (0 : Int32)) (by decide) ?_
    refine r_istore_n X dX12_tour_31 rfl (by decide) (LL := fun v5 => [(2, .int v5), (1, .int v2), (0, .ref (tw_zB z + 442))]) (fun _ => rfl) (fun v5 => ?_)
    refine r_lp (α := Int32 × Int32 × tw_Sg) (σJ := fun a6 => a6.2.2) (pcJ := 32) (LJ := fun a6 => [(2, .int a6.2.1), (1, .int a6.1), (0, .ref (tw_zB z + 442))]) (stJ := fun a6 => []) (fun k7 hk7 a6 => ?_) n (v2, v5, r4)
    refine r_iload_n X dX12_tour_32 rfl 0 rfl ?_
    refine r_aload_n X dX12_tour_33 rfl 2 rfl ?_
    refine r_bd (fun r8 hr8 => ?_)
    refine tw_c_X12_cells X dX12_tour_34 _ tw_w1523  hr8 (tw_le hfr rfl) (tw_le hlo rfl) hcs (Nat.le_of_ble_eq_true rfl) trivial ?_
    refine r_icmp_ge X dX12_tour_37 (tgt := 91) (by decide) ?_ ?_
    ·
      refine r_iconst X dX12_tour_91 (v := (0 : Int32)) (by decide) ?_
      refine r_istore_n X dX12_tour_92 rfl (by decide) (LL := fun v9 => [(2, .int v9), (1, .int a6.1), (0, .ref (tw_zB z + 442))]) (fun _ => rfl) (fun v9 => ?_)
      refine r_lp (α := Int32 × Int32 × tw_Sg) (σJ := fun a10 => a10.2.2) (pcJ := 93) (LJ := fun a10 => [(2, .int a10.2.1), (1, .int a10.1), (0, .ref (tw_zB z + 442))]) (stJ := fun a10 => []) (fun k11 hk11 a10 => ?_) n (a6.1, v9, a6.2.2)
      refine r_iload_n X dX12_tour_93 rfl 0 rfl ?_
      refine r_iload_n X dX12_tour_94 rfl 1 rfl ?_
      refine r_icmp_ge X dX12_tour_95 (tgt := 146) (by decide) ?_ ?_
      ·
        refine r_iload_n X dX12_tour_146 rfl 1 rfl ?_
        refine r_jn (α := Int32 × tw_Sg) (σJ := fun a12 => a12.2) (pcJ := 159) (LJ := fun a12 => []) (stJ := fun a12 => [.int a12.1]) (ok := fun a12 => True) (fun a12 hoka12 => ?_) (fun j13 hj13 => ?_)
        ·
          exact r_iret X dX12_tour_159 hret hQ rfl
        refine r_if_ne X dX12_tour_147 (tgt := 154) (by decide) ?_ ?_
        ·
          refine r_aload_n X dX12_tour_154 rfl 2 rfl ?_
          refine r_iload_n X dX12_tour_155 rfl 1 rfl ?_
          refine r_bd (fun r14 hr14 => ?_)
          refine tw_c_X12_shortest X dX12_tour_156 _ tw_w1660  hr14 (tw_le hfr rfl) (tw_le hlo rfl) hcs (Nat.le_of_ble_eq_true rfl) trivial ?_
          exact tw_Rf.sub [] rfl (hj13 (r14.1, r14.2) trivial)
        ·
          refine r_iconst X dX12_tour_150 (v := (0 : Int32)) (by decide) ?_
          refine r_goto X dX12_tour_151 (tgt := 159) (by decide) ?_
          exact tw_Rf.sub [] rfl (hj13 ((0 : Int32), a10.2.2) trivial)
      ·
        refine r_aload_n X dX12_tour_98 rfl 2 rfl ?_
        refine r_aload_n X dX12_tour_99 rfl 2 rfl ?_
        refine tw_g12_27 (k := 442) (v := .ref (tw_zB z + 511)) X dX12_tour_100 _ tw_w1279 tw_kc442 rfl ?_
        refine r_iload_n X dX12_tour_103 rfl 0 rfl ?_
        refine r_iald (k := 511) X dX12_tour_104 tw_kc511 ?_
        refine r_bd (fun r15 hr15 => ?_)
        refine tw_c_X12_layFar X dX12_tour_105 _ tw_w1648  hr15 (tw_le hfr rfl) (tw_le hlo rfl) hcs (Nat.le_of_ble_eq_true rfl) trivial ?_
        refine r_iconst X dX12_tour_108 (v := (0 : Int32)) (by decide) ?_
        refine r_istore_n X dX12_tour_109 rfl (by decide) (LL := fun v16 => [(3, .int v16), (2, .int a10.2.1), (1, .int a10.1), (0, .ref (tw_zB z + 442))]) (fun _ => rfl) (fun v16 => ?_)
        refine r_lp (α := Int32 × Int32 × Int32 × tw_Sg) (σJ := fun a17 => a17.2.2.2) (pcJ := 110) (LJ := fun a17 => [(3, .int a17.2.2.1), (2, .int a17.2.1), (1, .int a17.1), (0, .ref (tw_zB z + 442))]) (stJ := fun a17 => []) (fun k18 hk18 a17 => ?_) n (a10.1, a10.2.1, v16, r15)
        refine r_iload_n X dX12_tour_110 rfl 0 rfl ?_
        refine r_iload_n X dX12_tour_111 rfl 2 rfl ?_
        refine r_icmp_ge X dX12_tour_112 (tgt := 140) (by decide) ?_ ?_
        ·
          refine r_iinc X dX12_tour_140 1 rfl (v := (1 : Int32)) (by decide) (by decide) (LL := fun v19 => [(2, .int v19), (3, .int a17.2.2.1), (1, .int a17.1), (0, .ref (tw_zB z + 442))]) (fun _ => rfl) (fun v19 => ?_)
          refine r_goto X dX12_tour_143 (tgt := 93) (by decide) ?_
          exact tw_Rf.sub [0, 2, 3] rfl (hk11 (a17.1, v19, a17.2.2.2))
        ·
          refine r_aload_n X dX12_tour_115 rfl 3 rfl ?_
          refine tw_g12_29 (k := 442) (v := .ref (tw_zB z + 513)) X dX12_tour_116 _ tw_w1281 tw_kc442 rfl ?_
          refine r_iload_n X dX12_tour_119 rfl 1 rfl ?_
          refine r_aald (k := 513) (r := 513 + 1 + 1 * Int32.toNatClampNeg a17.2.1) X dX12_tour_120 (tw_kd_lt tw_kc513 (by decide)) (tw_E17 tw_kc513) rfl rfl rfl (fun h20 => ?_)
          refine r_iload_n X dX12_tour_121 rfl 0 rfl ?_
          refine r_aload_n X dX12_tour_122 rfl 3 rfl ?_
          refine tw_g12_24 (k := 442) (v := .ref (tw_zB z + 508)) X dX12_tour_123 _ tw_w1276 tw_kc442 rfl ?_
          refine r_aload_n X dX12_tour_126 rfl 3 rfl ?_
          refine tw_g12_27 (k := 442) (v := .ref (tw_zB z + 511)) X dX12_tour_127 _ tw_w1279 tw_kc442 rfl ?_
          refine r_iload_n X dX12_tour_130 rfl 0 rfl ?_
          refine r_iald (k := 511) X dX12_tour_131 tw_kc511 ?_
          refine r_iald (k := 508) X dX12_tour_132 tw_kc508 ?_
          refine r_iast (k := (513 + 1 + 1 * Int32.toNatClampNeg a17.2.1)) X dX12_tour_133 (tw_ke17 tw_kc513 (tw_ok_lt h20)) (fun σ21 => ?_)
          refine r_iinc X dX12_tour_134 0 rfl (v := (1 : Int32)) (by decide) (by decide) (LL := fun v22 => [(3, .int v22), (2, .int a17.2.1), (1, .int a17.1), (0, .ref (tw_zB z + 442))]) (fun _ => rfl) (fun v22 => ?_)
          refine r_goto X dX12_tour_137 (tgt := 110) (by decide) ?_
          exact hk18 (a17.1, a17.2.1, v22, σ21)
    ·
      refine r_aload_n X dX12_tour_40 rfl 2 rfl ?_
      refine r_iload_n X dX12_tour_41 rfl 0 rfl ?_
      refine r_bd (fun r23 hr23 => ?_)
      refine tw_c_X12_isLeft X dX12_tour_42 _ tw_w1584  hr23 (tw_le hfr rfl) (tw_le hlo rfl) hcs (Nat.le_of_ble_eq_true rfl) trivial ?_
      refine r_jn (α := Int32 × tw_Sg) (σJ := fun a24 => a24.2) (pcJ := 85) (LJ := fun a24 => [(2, .int a6.2.1), (1, .int a24.1), (0, .ref (tw_zB z + 442))]) (stJ := fun a24 => []) (ok := fun a24 => True) (fun a24 hoka24 => ?_) (fun j25 hj25 => ?_)
      ·
        refine r_iinc X dX12_tour_85 0 rfl (v := (1 : Int32)) (by decide) (by decide) (LL := fun v26 => [(2, .int v26), (1, .int a24.1), (0, .ref (tw_zB z + 442))]) (fun _ => rfl) (fun v26 => ?_)
        refine r_goto X dX12_tour_88 (tgt := 32) (by decide) ?_
        exact hk7 (a24.1, v26, a24.2)
      refine r_if_ne X dX12_tour_45 (tgt := 51) (by decide) ?_ ?_
      ·
        refine r_aload_n X dX12_tour_51 rfl 2 rfl ?_
        refine tw_g12_24 (k := 442) (v := .ref (tw_zB z + 508)) X dX12_tour_52 _ tw_w1276 tw_kc442 rfl ?_
        refine r_iload_n X dX12_tour_55 rfl 0 rfl ?_
        refine r_iald (k := 508) X dX12_tour_56 tw_kc508 ?_
        refine r_iconst X dX12_tour_57 (v := (-1 : Int32)) (by decide) ?_
        refine r_icmp_ne X dX12_tour_58 (tgt := 63) (by decide) ?_ ?_
        ·
          refine r_aload_n X dX12_tour_63 rfl 2 rfl ?_
          refine tw_g12_27 (k := 442) (v := .ref (tw_zB z + 511)) X dX12_tour_64 _ tw_w1279 tw_kc442 rfl ?_
          refine r_iload_n X dX12_tour_67 rfl 1 rfl ?_
          refine r_iload_n X dX12_tour_68 rfl 0 rfl ?_
          refine r_iast (k := 511) X dX12_tour_69 tw_kc511 (fun σ27 => ?_)
          refine r_aload_n X dX12_tour_70 rfl 2 rfl ?_
          refine tw_g12_28 (k := 442) (v := .ref (tw_zB z + 512)) X dX12_tour_71 _ tw_w1280 tw_kc442 rfl ?_
          refine r_iload_n X dX12_tour_74 rfl 1 rfl ?_
          refine r_aload_n X dX12_tour_75 rfl 2 rfl ?_
          refine tw_g12_24 (k := 442) (v := .ref (tw_zB z + 508)) X dX12_tour_76 _ tw_w1276 tw_kc442 rfl ?_
          refine r_iload_n X dX12_tour_79 rfl 0 rfl ?_
          refine r_iald (k := 508) X dX12_tour_80 tw_kc508 ?_
          refine r_iast (k := 512) X dX12_tour_81 tw_kc512 (fun σ28 => ?_)
          refine r_iinc X dX12_tour_82 1 rfl (v := (1 : Int32)) (by decide) (by decide) (LL := fun v29 => [(1, .int v29), (2, .int a6.2.1), (0, .ref (tw_zB z + 442))]) (fun _ => rfl) (fun v29 => ?_)
          exact tw_Rf.sub [1, 0, 2] rfl (hj25 (v29, σ28) trivial)
        ·
          refine r_iconst X dX12_tour_61 (v := (-1 : Int32)) (by decide) ?_
          exact r_iret X dX12_tour_62 hret hQ rfl
      ·
        refine r_goto X dX12_tour_48 (tgt := 85) (by decide) ?_
        exact hj25 (a6.1, r23.2) trivial
  ·
    refine r_bipush X dX12_tour_17 (v := (-2 : Int32)) (by decide) ?_
    exact r_iret X dX12_tour_19 hret hQ rfl
theorem tw_c_X12_tour {ρ : Type} {z : tw_Z} {cc : ByteArray} {own : String} {nL pc : Nat} {σ : tw_Sg} {L : List (Nat × Value)} {st : List Value} {ix : Nat} {n : Nat}  (X : tw_X z cc own nL) (d : decode cc pc = .ok (.invokevirtual ix, 3)) (i : Nat) (hi : lw_tbl[i]? = some (.methodLink own ix yX12_tour))  {res : ρ} {E : Option ρ} {r : Int32 × tw_Sg} (h : tw_P_X12_tour n σ = some r) (h1 : 11 ≤ (tw_zR z).frames) (h2 : 261 ≤ (tw_zR z).locals) (hcs : tw_zcells z ≤ (tw_zR z).cells ∧ tw_zslots z ≤ (tw_zR z).slots) (hst : (st.map fun v => v.category).sum ≤ 8) (_ : True) (kk : tw_Rf z res E r.2 (pc + 3) L (.int r.1 :: st)) : tw_Rf z res E σ pc L (.ref (tw_zB z + 442) :: st) := r_callV (As := []) X d (tw_m_X12_tour  h) tw_y_X12_tour tw_v_X12_tour i hi rfl (tw_kd_lt tw_kc442 (by decide)) (tw_E12 tw_kc442) rfl ⟨rfl, rfl, h1, h2⟩ hcs hst rfl kk
def tw_P_X12_part (n : Nat) (x0 : Int32) (x1 : Int32) (σ : tw_Sg) : Option (Int32 × tw_Sg) :=
tw_lt (tw_up σ 442 0 (0 : Int32)) (fun (σ1 : tw_Sg) =>
tw_bd (tw_P_X12_noCell x0 x1 σ1) (fun r2 =>
if r2.1 = 0 then (tw_bd (tw_P_X12_layParts n r2.2) (fun r3 =>
tw_bd (tw_P_X12_cellAt x0 x1 r3.2) (fun r4 =>
tw_ck (tw_ok r4 (tw_ln 510)) (
tw_lt (r3.2 510 (Int32.toNatClampNeg r4)) (fun (v5 : Int32) =>
tw_lt (0 : Int32) (fun (v6 : Int32) =>
tw_lt (0 : Int32) (fun (v7 : Int32) =>
tw_lp (fun (k9 : (Int32 × Int32) → Option (Int32 × tw_Sg)) (a8 : Int32 × Int32) =>
tw_bd (tw_P_X12_cells r3.2) (fun r10 =>
if r10 ≤ a8.2 then (some (a8.1, r3.2))
else (tw_jn (fun (a11 : Int32) =>
tw_lt (a8.1 + a11) (fun (v13 : Int32) =>
tw_lt (a8.2 + (1 : Int32)) (fun (v14 : Int32) =>
k9 (v13, v14)))) (fun (j12 : (Int32) → Option (Int32 × tw_Sg)) =>
tw_jn (fun (a15 : Unit) =>
j12 (0 : Int32)) (fun (j16 : (Unit) → Option (Int32 × tw_Sg)) =>
if v5 = (-1 : Int32) then (j16 ())
else (tw_ck (tw_ok a8.2 (tw_ln 510)) (
if ¬ (r3.2 510 (Int32.toNatClampNeg a8.2)) = v5 then (j16 ())
else (j12 (1 : Int32))))))))) n (v6, v7))))))))
else (some ((0 : Int32), r2.2))))
theorem tw_y_X12_part : tw_My yX12_part cX12_part 6 (some .int) 2 := ⟨List.mem_of_getElem? tw_w1668, List.mem_of_getElem? tw_w101, by decide +kernel, by decide +kernel, by decide +kernel⟩
theorem tw_v_X12_part : tw_Mv yX12_part "TreasureWalkModel" := ⟨List.mem_of_getElem? tw_w1666, List.mem_of_getElem? tw_w1667, rfl⟩
set_option maxRecDepth 100000 in
set_option maxHeartbeats 4000000 in
theorem tw_m_X12_part {l : Launch} {B : Nat} {D : va_G} {C : Nat → ClassId} {S : Nat → Nat} {n : Nat} {x0 : Int32} {x1 : Int32} {σ : tw_Sg}  {r : Int32 × tw_Sg} (h : tw_P_X12_part n x0 x1 σ = some r) : tw_Met l B D C S yX12_part cX12_part 6 (some .int) ({ frames := 10, cells := 0, slots := 0, locals := 241 } : Room) [.ref (B + 442), .int x0, .int x1] σ (some (.int r.1)) r.2 := by
  refine tw_metOfP (tw_P_X12_part n x0 x1 σ) r h (fun r => (some (.int r.1), r.2)) (by decide +kernel) (Nat.le_of_ble_eq_true rfl) ⟨rfl, rfl⟩ ?_
  intro z el eB eD eC eS hfr hlo hcs X hret hQ
  subst el eB eD eC eS
  have X : tw_X z cX12_part "TreasureWalkModel" 6 := X
  show tw_Rf z r _ σ 0 [(0, .ref (tw_zB z + 442)), (1, .int x0), (2, .int x1)] []
  unfold tw_P_X12_part
  refine r_aload_n X dX12_part_0 rfl 0 rfl ?_
  refine r_iconst X dX12_part_1 (v := (0 : Int32)) (by decide) ?_
  refine tw_s12_0 (k := 442) X dX12_part_2 _ tw_w1252 tw_kc442 (fun σ1 => ?_)
  refine r_aload_n X dX12_part_5 rfl 0 rfl ?_
  refine r_iload_n X dX12_part_6 rfl 1 rfl ?_
  refine r_iload_n X dX12_part_7 rfl 2 rfl ?_
  refine r_bd (fun r2 hr2 => ?_)
  refine tw_c_X12_noCell X dX12_part_8 _ tw_w1596  hr2 (tw_le hfr rfl) (tw_le hlo rfl) hcs (Nat.le_of_ble_eq_true rfl) trivial ?_
  refine r_if_eq X dX12_part_11 (tgt := 16) (by decide) ?_ ?_
  ·
    refine r_aload_n X dX12_part_16 rfl 0 rfl ?_
    refine r_bd (fun r3 hr3 => ?_)
    refine tw_c_X12_layParts X dX12_part_17 _ tw_w1588  hr3 (tw_le hfr rfl) (tw_le hlo rfl) hcs (Nat.le_of_ble_eq_true rfl) trivial ?_
    refine r_pop X dX12_part_20 rfl ?_
    refine r_aload_n X dX12_part_21 rfl 0 rfl ?_
    refine tw_g12_26 (k := 442) (v := .ref (tw_zB z + 510)) X dX12_part_22 _ tw_w1278 tw_kc442 rfl ?_
    refine r_aload_n X dX12_part_25 rfl 0 rfl ?_
    refine r_iload_n X dX12_part_26 rfl 1 rfl ?_
    refine r_iload_n X dX12_part_27 rfl 2 rfl ?_
    refine r_bd (fun r4 hr4 => ?_)
    refine tw_c_X12_cellAt X dX12_part_28 _ tw_w1576  hr4 (tw_le hfr rfl) (tw_le hlo rfl) hcs (Nat.le_of_ble_eq_true rfl) trivial ?_
    refine r_iald (k := 510) X dX12_part_31 tw_kc510 ?_
    refine r_istore_n X dX12_part_32 rfl (by decide) (LL := fun v5 => [(3, .int v5), (0, .ref (tw_zB z + 442)), (1, .int x0), (2, .int x1)]) (fun _ => rfl) (fun v5 => ?_)
    refine r_iconst X dX12_part_33 (v := (0 : Int32)) (by decide) ?_
    refine r_istore X dX12_part_34 (by decide) (LL := fun v6 => [(4, .int v6), (3, .int v5), (0, .ref (tw_zB z + 442)), (1, .int x0), (2, .int x1)]) (fun _ => rfl) (fun v6 => ?_)
    refine r_iconst X dX12_part_36 (v := (0 : Int32)) (by decide) ?_
    refine r_istore X dX12_part_37 (by decide) (LL := fun v7 => [(5, .int v7), (4, .int v6), (3, .int v5), (0, .ref (tw_zB z + 442)), (1, .int x0), (2, .int x1)]) (fun _ => rfl) (fun v7 => ?_)
    refine tw_Rf.sub [0, 1, 2, 3] rfl ?_
    refine r_lp (α := Int32 × Int32) (σJ := fun a8 => r3.2) (pcJ := 39) (LJ := fun a8 => [(5, .int a8.2), (4, .int a8.1), (3, .int v5), (0, .ref (tw_zB z + 442))]) (stJ := fun a8 => []) (fun k9 hk9 a8 => ?_) n (v6, v7)
    refine r_iload X dX12_part_39 0 rfl ?_
    refine r_aload_n X dX12_part_41 rfl 3 rfl ?_
    refine r_bd (fun r10 hr10 => ?_)
    refine tw_c_X12_cells X dX12_part_42 _ tw_w1523  hr10 (tw_le hfr rfl) (tw_le hlo rfl) hcs (Nat.le_of_ble_eq_true rfl) trivial ?_
    refine r_icmp_ge X dX12_part_45 (tgt := 80) (by decide) ?_ ?_
    ·
      refine r_iload X dX12_part_80 1 rfl ?_
      exact r_iret X dX12_part_82 hret hQ rfl
    ·
      refine r_iload X dX12_part_48 1 rfl ?_
      refine r_iload_n X dX12_part_50 rfl 2 rfl ?_
      refine r_iconst X dX12_part_51 (v := (-1 : Int32)) (by decide) ?_
      refine r_jn (α := Int32) (σJ := fun a11 => r3.2) (pcJ := 71) (LJ := fun a11 => [(5, .int a8.2), (3, .int v5), (0, .ref (tw_zB z + 442))]) (stJ := fun a11 => [.int a11, .int a8.1]) (ok := fun a11 => True) (fun a11 hoka11 => ?_) (fun j12 hj12 => ?_)
      ·
        refine r_iadd X dX12_part_71 ?_
        refine r_istore X dX12_part_72 (by decide) (LL := fun v13 => [(4, .int v13), (5, .int a8.2), (3, .int v5), (0, .ref (tw_zB z + 442))]) (fun _ => rfl) (fun v13 => ?_)
        refine r_iinc X dX12_part_74 1 rfl (v := (1 : Int32)) (by decide) (by decide) (LL := fun v14 => [(5, .int v14), (4, .int v13), (3, .int v5), (0, .ref (tw_zB z + 442))]) (fun _ => rfl) (fun v14 => ?_)
        refine r_goto X dX12_part_77 (tgt := 39) (by decide) ?_
        exact hk9 (v13, v14)
      refine r_jn (α := Unit) (σJ := fun a15 => r3.2) (pcJ := 70) (LJ := fun a15 => [(5, .int a8.2), (3, .int v5), (0, .ref (tw_zB z + 442))]) (stJ := fun a15 => [.int a8.1]) (ok := fun a15 => True) (fun a15 hoka15 => ?_) (fun j16 hj16 => ?_)
      ·
        refine r_iconst X dX12_part_70 (v := (0 : Int32)) (by decide) ?_
        exact hj12 (0 : Int32) trivial
      refine r_icmp_eq X dX12_part_52 (tgt := 70) (by decide) ?_ ?_
      ·
        exact tw_Rf.sub [0, 2, 3] rfl (hj16 () trivial)
      ·
        refine r_aload_n X dX12_part_55 rfl 3 rfl ?_
        refine tw_g12_26 (k := 442) (v := .ref (tw_zB z + 510)) X dX12_part_56 _ tw_w1278 tw_kc442 rfl ?_
        refine r_iload X dX12_part_59 0 rfl ?_
        refine r_iald (k := 510) X dX12_part_61 tw_kc510 ?_
        refine r_iload_n X dX12_part_62 rfl 2 rfl ?_
        refine r_icmp_ne X dX12_part_63 (tgt := 70) (by decide) ?_ ?_
        ·
          exact tw_Rf.sub [0, 2, 3] rfl (hj16 () trivial)
        ·
          refine r_iconst X dX12_part_66 (v := (1 : Int32)) (by decide) ?_
          refine r_goto X dX12_part_67 (tgt := 71) (by decide) ?_
          exact tw_Rf.sub [0, 2, 3] rfl (hj12 (1 : Int32) trivial)
  ·
    refine r_iconst X dX12_part_14 (v := (0 : Int32)) (by decide) ?_
    exact r_iret X dX12_part_15 hret hQ rfl
theorem tw_c_X12_part {ρ : Type} {z : tw_Z} {cc : ByteArray} {own : String} {nL pc : Nat} {σ : tw_Sg} {L : List (Nat × Value)} {st : List Value} {ix : Nat} {n : Nat} {x0 : Int32} {x1 : Int32} (X : tw_X z cc own nL) (d : decode cc pc = .ok (.invokevirtual ix, 3)) (i : Nat) (hi : lw_tbl[i]? = some (.methodLink own ix yX12_part))  {res : ρ} {E : Option ρ} {r : Int32 × tw_Sg} (h : tw_P_X12_part n x0 x1 σ = some r) (h1 : 11 ≤ (tw_zR z).frames) (h2 : 266 ≤ (tw_zR z).locals) (hcs : tw_zcells z ≤ (tw_zR z).cells ∧ tw_zslots z ≤ (tw_zR z).slots) (hst : (st.map fun v => v.category).sum ≤ 8) (_ : True) (kk : tw_Rf z res E r.2 (pc + 3) L (.int r.1 :: st)) : tw_Rf z res E σ pc L (.int x1 :: .int x0 :: .ref (tw_zB z + 442) :: st) := r_callV (As := [.int x0, .int x1]) X d (tw_m_X12_part  h) tw_y_X12_part tw_v_X12_part i hi rfl (tw_kd_lt tw_kc442 (by decide)) (tw_E12 tw_kc442) rfl ⟨rfl, rfl, h1, h2⟩ hcs hst rfl kk
def tw_P_X12_chestIsLeft (n : Nat)  (σ : tw_Sg) : Option (Int32 × tw_Sg) :=
tw_lt (tw_up σ 442 0 (0 : Int32)) (fun (σ1 : tw_Sg) =>
tw_ck (tw_ok (6 : Int32) (tw_ln 444)) (
tw_jn (fun (a2 : Int32 × tw_Sg) =>
tw_ck (tw_01 a2.1) (some (a2.1, a2.2))) (fun (j3 : (Int32 × tw_Sg) → Option (Int32 × tw_Sg)) =>
tw_jn (fun (a4 : tw_Sg) =>
j3 ((0 : Int32), a4)) (fun (j5 : (tw_Sg) → Option (Int32 × tw_Sg)) =>
if ¬ (σ1 444 (Int32.toNatClampNeg (6 : Int32))) = (1 : Int32) then (j5 σ1)
else (tw_ck (tw_ok (7 : Int32) (tw_ln 444)) (
tw_bd (tw_P_X12_isLeft n (σ1 444 (Int32.toNatClampNeg (7 : Int32))) σ1) (fun r6 =>
if r6.1 = 0 then (j5 r6.2)
else (j3 ((1 : Int32), r6.2)))))))))
theorem tw_y_X12_chestIsLeft : tw_My yX12_chestIsLeft cX12_chestIsLeft 1 (some .boolean) 0 := ⟨List.mem_of_getElem? tw_w1676, List.mem_of_getElem? tw_w101, by decide +kernel, by decide +kernel, by decide +kernel⟩
theorem tw_v_X12_chestIsLeft : tw_Mv yX12_chestIsLeft "TreasureWalkModel" := ⟨List.mem_of_getElem? tw_w1674, List.mem_of_getElem? tw_w1675, rfl⟩
set_option maxRecDepth 100000 in
set_option maxHeartbeats 4000000 in
theorem tw_m_X12_chestIsLeft {l : Launch} {B : Nat} {D : va_G} {C : Nat → ClassId} {S : Nat → Nat} {n : Nat}  {σ : tw_Sg}  {r : Int32 × tw_Sg} (h : tw_P_X12_chestIsLeft n σ = some r) : tw_Met l B D C S yX12_chestIsLeft cX12_chestIsLeft 1 (some .boolean) ({ frames := 9, cells := 0, slots := 0, locals := 215 } : Room) [.ref (B + 442)] σ (some (.int r.1)) r.2 := by
  refine tw_metOfP (tw_P_X12_chestIsLeft n σ) r h (fun r => (some (.int r.1), r.2)) (by decide +kernel) (Nat.le_of_ble_eq_true rfl) ⟨rfl, rfl⟩ ?_
  intro z el eB eD eC eS hfr hlo hcs X hret hQ
  subst el eB eD eC eS
  have X : tw_X z cX12_chestIsLeft "TreasureWalkModel" 1 := X
  show tw_Rf z r _ σ 0 [(0, .ref (tw_zB z + 442))] []
  unfold tw_P_X12_chestIsLeft
  refine r_aload_n X dX12_chestIsLeft_0 rfl 0 rfl ?_
  refine r_iconst X dX12_chestIsLeft_1 (v := (0 : Int32)) (by decide) ?_
  refine tw_s12_0 (k := 442) X dX12_chestIsLeft_2 _ tw_w1252 tw_kc442 (fun σ1 => ?_)
  refine r_aload_n X dX12_chestIsLeft_5 rfl 0 rfl ?_
  refine tw_g12_8 (k := 442) (v := .ref (tw_zB z + 444)) X dX12_chestIsLeft_6 _ tw_w1260 tw_kc442 rfl ?_
  refine r_bipush X dX12_chestIsLeft_9 (v := (6 : Int32)) (by decide) ?_
  refine r_iald (k := 444) X dX12_chestIsLeft_11 tw_kc444 ?_
  refine r_iconst X dX12_chestIsLeft_12 (v := (1 : Int32)) (by decide) ?_
  refine r_jn (α := Int32 × tw_Sg) (σJ := fun a2 => a2.2) (pcJ := 35) (LJ := fun a2 => []) (stJ := fun a2 => [.int a2.1]) (ok := fun a2 => True) (fun a2 hoka2 => ?_) (fun j3 hj3 => ?_)
  ·
    exact r_zret X dX12_chestIsLeft_35 hret hQ rfl
  refine r_jn (α := tw_Sg) (σJ := fun a4 => a4) (pcJ := 34) (LJ := fun a4 => []) (stJ := fun a4 => []) (ok := fun a4 => True) (fun a4 hoka4 => ?_) (fun j5 hj5 => ?_)
  ·
    refine r_iconst X dX12_chestIsLeft_34 (v := (0 : Int32)) (by decide) ?_
    exact hj3 ((0 : Int32), a4) trivial
  refine r_icmp_ne X dX12_chestIsLeft_13 (tgt := 34) (by decide) ?_ ?_
  ·
    exact tw_Rf.sub [] rfl (hj5 σ1 trivial)
  ·
    refine r_aload_n X dX12_chestIsLeft_16 rfl 0 rfl ?_
    refine r_aload_n X dX12_chestIsLeft_17 rfl 0 rfl ?_
    refine tw_g12_8 (k := 442) (v := .ref (tw_zB z + 444)) X dX12_chestIsLeft_18 _ tw_w1260 tw_kc442 rfl ?_
    refine r_bipush X dX12_chestIsLeft_21 (v := (7 : Int32)) (by decide) ?_
    refine r_iald (k := 444) X dX12_chestIsLeft_23 tw_kc444 ?_
    refine r_bd (fun r6 hr6 => ?_)
    refine tw_c_X12_isLeft X dX12_chestIsLeft_24 _ tw_w1584  hr6 (tw_le hfr rfl) (tw_le hlo rfl) hcs (Nat.le_of_ble_eq_true rfl) trivial ?_
    refine r_if_eq X dX12_chestIsLeft_27 (tgt := 34) (by decide) ?_ ?_
    ·
      exact tw_Rf.sub [] rfl (hj5 r6.2 trivial)
    ·
      refine r_iconst X dX12_chestIsLeft_30 (v := (1 : Int32)) (by decide) ?_
      refine r_goto X dX12_chestIsLeft_31 (tgt := 35) (by decide) ?_
      exact tw_Rf.sub [] rfl (hj3 ((1 : Int32), r6.2) trivial)
theorem tw_c_X12_chestIsLeft {ρ : Type} {z : tw_Z} {cc : ByteArray} {own : String} {nL pc : Nat} {σ : tw_Sg} {L : List (Nat × Value)} {st : List Value} {ix : Nat} {n : Nat}  (X : tw_X z cc own nL) (d : decode cc pc = .ok (.invokevirtual ix, 3)) (i : Nat) (hi : lw_tbl[i]? = some (.methodLink own ix yX12_chestIsLeft))  {res : ρ} {E : Option ρ} {r : Int32 × tw_Sg} (h : tw_P_X12_chestIsLeft n σ = some r) (h1 : 10 ≤ (tw_zR z).frames) (h2 : 235 ≤ (tw_zR z).locals) (hcs : tw_zcells z ≤ (tw_zR z).cells ∧ tw_zslots z ≤ (tw_zR z).slots) (hst : (st.map fun v => v.category).sum ≤ 8) (_ : True) (kk : tw_Rf z res E r.2 (pc + 3) L (.int r.1 :: st)) : tw_Rf z res E σ pc L (.ref (tw_zB z + 442) :: st) := r_callV (As := []) X d (tw_m_X12_chestIsLeft  h) tw_y_X12_chestIsLeft tw_v_X12_chestIsLeft i hi rfl (tw_kd_lt tw_kc442 (by decide)) (tw_E12 tw_kc442) rfl ⟨rfl, rfl, h1, h2⟩ hcs hst rfl kk
def tw_P_X12_moveTo (n : Nat) (x0 : Int32) (x1 : Int32) (σ : tw_Sg) : Option (Int32 × tw_Sg) :=
tw_lt (tw_up σ 442 0 (0 : Int32)) (fun (σ1 : tw_Sg) =>
tw_bd (tw_P_X12_noCell x0 x1 σ1) (fun r2 =>
if r2.1 = 0 then (tw_ck (tw_ok (4 : Int32) (tw_ln 444)) (
tw_bd (tw_P_X12_layFar n (r2.2 444 (Int32.toNatClampNeg (4 : Int32))) r2.2) (fun r3 =>
tw_bd (tw_P_X12_cellAt x0 x1 r3) (fun r4 =>
tw_ck (tw_ok r4 (tw_ln 508)) (
tw_lt (r3 508 (Int32.toNatClampNeg r4)) (fun (v5 : Int32) =>
if ¬ v5 = (-1 : Int32) then (tw_bd (tw_P_X12_remember n r3) (fun r6 =>
tw_bd (tw_P_X12_cellAt x0 x1 r6) (fun r7 =>
tw_ck (tw_ok (4 : Int32) (tw_ln 444)) (tw_lt (tw_up r6 444 (Int32.toNatClampNeg (4 : Int32)) r7) (fun (σ8 : tw_Sg) =>
tw_ck (tw_ok (5 : Int32) (tw_ln 444)) (
tw_ck (tw_ok (5 : Int32) (tw_ln 444)) (tw_lt (tw_up σ8 444 (Int32.toNatClampNeg (5 : Int32)) ((σ8 444 (Int32.toNatClampNeg (5 : Int32))) + v5)) (fun (σ9 : tw_Sg) =>
some (v5, σ9)))))))))
else (some ((-1 : Int32), r3))))))))
else (some ((0 : Int32), r2.2))))
theorem tw_y_X12_moveTo : tw_My yX12_moveTo cX12_moveTo 4 (some .int) 2 := ⟨List.mem_of_getElem? tw_w1680, List.mem_of_getElem? tw_w101, by decide +kernel, by decide +kernel, by decide +kernel⟩
theorem tw_v_X12_moveTo : tw_Mv yX12_moveTo "TreasureWalkModel" := ⟨List.mem_of_getElem? tw_w1678, List.mem_of_getElem? tw_w1679, rfl⟩
set_option maxRecDepth 100000 in
set_option maxHeartbeats 4000000 in
theorem tw_m_X12_moveTo {l : Launch} {B : Nat} {D : va_G} {C : Nat → ClassId} {S : Nat → Nat} {n : Nat} {x0 : Int32} {x1 : Int32} {σ : tw_Sg}  {r : Int32 × tw_Sg} (h : tw_P_X12_moveTo n x0 x1 σ = some r) : tw_Met l B D C S yX12_moveTo cX12_moveTo 4 (some .int) ({ frames := 3, cells := 0, slots := 0, locals := 71 } : Room) [.ref (B + 442), .int x0, .int x1] σ (some (.int r.1)) r.2 := by
  refine tw_metOfP (tw_P_X12_moveTo n x0 x1 σ) r h (fun r => (some (.int r.1), r.2)) (by decide +kernel) (Nat.le_of_ble_eq_true rfl) ⟨rfl, rfl⟩ ?_
  intro z el eB eD eC eS hfr hlo hcs X hret hQ
  subst el eB eD eC eS
  have X : tw_X z cX12_moveTo "TreasureWalkModel" 4 := X
  show tw_Rf z r _ σ 0 [(0, .ref (tw_zB z + 442)), (1, .int x0), (2, .int x1)] []
  unfold tw_P_X12_moveTo
  refine r_aload_n X dX12_moveTo_0 rfl 0 rfl ?_
  refine r_iconst X dX12_moveTo_1 (v := (0 : Int32)) (by decide) ?_
  refine tw_s12_0 (k := 442) X dX12_moveTo_2 _ tw_w1252 tw_kc442 (fun σ1 => ?_)
  refine r_aload_n X dX12_moveTo_5 rfl 0 rfl ?_
  refine r_iload_n X dX12_moveTo_6 rfl 1 rfl ?_
  refine r_iload_n X dX12_moveTo_7 rfl 2 rfl ?_
  refine r_bd (fun r2 hr2 => ?_)
  refine tw_c_X12_noCell X dX12_moveTo_8 _ tw_w1596  hr2 (tw_le hfr rfl) (tw_le hlo rfl) hcs (Nat.le_of_ble_eq_true rfl) trivial ?_
  refine r_if_eq X dX12_moveTo_11 (tgt := 16) (by decide) ?_ ?_
  ·
    refine r_aload_n X dX12_moveTo_16 rfl 0 rfl ?_
    refine r_aload_n X dX12_moveTo_17 rfl 0 rfl ?_
    refine tw_g12_8 (k := 442) (v := .ref (tw_zB z + 444)) X dX12_moveTo_18 _ tw_w1260 tw_kc442 rfl ?_
    refine r_iconst X dX12_moveTo_21 (v := (4 : Int32)) (by decide) ?_
    refine r_iald (k := 444) X dX12_moveTo_22 tw_kc444 ?_
    refine r_bd (fun r3 hr3 => ?_)
    refine tw_c_X12_layFar X dX12_moveTo_23 _ tw_w1648  hr3 (tw_le hfr rfl) (tw_le hlo rfl) hcs (Nat.le_of_ble_eq_true rfl) trivial ?_
    refine r_aload_n X dX12_moveTo_26 rfl 0 rfl ?_
    refine tw_g12_24 (k := 442) (v := .ref (tw_zB z + 508)) X dX12_moveTo_27 _ tw_w1276 tw_kc442 rfl ?_
    refine r_aload_n X dX12_moveTo_30 rfl 0 rfl ?_
    refine r_iload_n X dX12_moveTo_31 rfl 1 rfl ?_
    refine r_iload_n X dX12_moveTo_32 rfl 2 rfl ?_
    refine r_bd (fun r4 hr4 => ?_)
    refine tw_c_X12_cellAt X dX12_moveTo_33 _ tw_w1576  hr4 (tw_le hfr rfl) (tw_le hlo rfl) hcs (Nat.le_of_ble_eq_true rfl) trivial ?_
    refine r_iald (k := 508) X dX12_moveTo_36 tw_kc508 ?_
    refine r_istore_n X dX12_moveTo_37 rfl (by decide) (LL := fun v5 => [(3, .int v5), (0, .ref (tw_zB z + 442)), (1, .int x0), (2, .int x1)]) (fun _ => rfl) (fun v5 => ?_)
    refine r_iload_n X dX12_moveTo_38 rfl 0 rfl ?_
    refine r_iconst X dX12_moveTo_39 (v := (-1 : Int32)) (by decide) ?_
    refine r_icmp_ne X dX12_moveTo_40 (tgt := 45) (by decide) ?_ ?_
    ·
      refine r_aload_n X dX12_moveTo_45 rfl 1 rfl ?_
      refine r_bd (fun r6 hr6 => ?_)
      refine tw_c_X12_remember X dX12_moveTo_46 _ tw_w1492  hr6 (tw_le hfr rfl) (tw_le hlo rfl) hcs (Nat.le_of_ble_eq_true rfl) trivial ?_
      refine r_aload_n X dX12_moveTo_49 rfl 1 rfl ?_
      refine tw_g12_8 (k := 442) (v := .ref (tw_zB z + 444)) X dX12_moveTo_50 _ tw_w1260 tw_kc442 rfl ?_
      refine r_iconst X dX12_moveTo_53 (v := (4 : Int32)) (by decide) ?_
      refine r_aload_n X dX12_moveTo_54 rfl 1 rfl ?_
      refine r_iload_n X dX12_moveTo_55 rfl 2 rfl ?_
      refine r_iload_n X dX12_moveTo_56 rfl 3 rfl ?_
      refine r_bd (fun r7 hr7 => ?_)
      refine tw_c_X12_cellAt X dX12_moveTo_57 _ tw_w1576  hr7 (tw_le hfr rfl) (tw_le hlo rfl) hcs (Nat.le_of_ble_eq_true rfl) trivial ?_
      refine r_iast (k := 444) X dX12_moveTo_60 tw_kc444 (fun σ8 => ?_)
      refine r_aload_n X dX12_moveTo_61 rfl 1 rfl ?_
      refine tw_g12_8 (k := 442) (v := .ref (tw_zB z + 444)) X dX12_moveTo_62 _ tw_w1260 tw_kc442 rfl ?_
      refine r_iconst X dX12_moveTo_65 (v := (5 : Int32)) (by decide) ?_
      refine r_dup2 X dX12_moveTo_66 rfl rfl ?_
      refine r_iald (k := 444) X dX12_moveTo_67 tw_kc444 ?_
      refine r_iload_n X dX12_moveTo_68 rfl 0 rfl ?_
      refine r_iadd X dX12_moveTo_69 ?_
      refine r_iast (k := 444) X dX12_moveTo_70 tw_kc444 (fun σ9 => ?_)
      refine r_iload_n X dX12_moveTo_71 rfl 0 rfl ?_
      exact r_iret X dX12_moveTo_72 hret hQ rfl
    ·
      refine r_iconst X dX12_moveTo_43 (v := (-1 : Int32)) (by decide) ?_
      exact r_iret X dX12_moveTo_44 hret hQ rfl
  ·
    refine r_iconst X dX12_moveTo_14 (v := (0 : Int32)) (by decide) ?_
    exact r_iret X dX12_moveTo_15 hret hQ rfl
theorem tw_c_X12_moveTo {ρ : Type} {z : tw_Z} {cc : ByteArray} {own : String} {nL pc : Nat} {σ : tw_Sg} {L : List (Nat × Value)} {st : List Value} {ix : Nat} {n : Nat} {x0 : Int32} {x1 : Int32} (X : tw_X z cc own nL) (d : decode cc pc = .ok (.invokevirtual ix, 3)) (i : Nat) (hi : lw_tbl[i]? = some (.methodLink own ix yX12_moveTo))  {res : ρ} {E : Option ρ} {r : Int32 × tw_Sg} (h : tw_P_X12_moveTo n x0 x1 σ = some r) (h1 : 4 ≤ (tw_zR z).frames) (h2 : 94 ≤ (tw_zR z).locals) (hcs : tw_zcells z ≤ (tw_zR z).cells ∧ tw_zslots z ≤ (tw_zR z).slots) (hst : (st.map fun v => v.category).sum ≤ 8) (_ : True) (kk : tw_Rf z res E r.2 (pc + 3) L (.int r.1 :: st)) : tw_Rf z res E σ pc L (.int x1 :: .int x0 :: .ref (tw_zB z + 442) :: st) := r_callV (As := [.int x0, .int x1]) X d (tw_m_X12_moveTo  h) tw_y_X12_moveTo tw_v_X12_moveTo i hi rfl (tw_kd_lt tw_kc442 (by decide)) (tw_E12 tw_kc442) rfl ⟨rfl, rfl, h1, h2⟩ hcs hst rfl kk
def tw_P_X12_dig (n : Nat)  (σ : tw_Sg) : Option (Int32 × tw_Sg) :=
tw_lt (tw_up σ 442 0 (0 : Int32)) (fun (σ1 : tw_Sg) =>
tw_bd (tw_P_X12_remember n σ1) (fun r2 =>
tw_ck (tw_ok (4 : Int32) (tw_ln 444)) (
tw_lt ((408 : Int32) + (r2 444 (Int32.toNatClampNeg (4 : Int32)))) (fun (v3 : Int32) =>
tw_ck (tw_ok v3 (tw_ln 444)) (
tw_lt (r2 444 (Int32.toNatClampNeg v3)) (fun (v4 : Int32) =>
tw_ck (tw_ok v3 (tw_ln 444)) (tw_lt (tw_up r2 444 (Int32.toNatClampNeg v3) (1 : Int32)) (fun (σ5 : tw_Sg) =>
if ¬ v4 = (1 : Int32) then (tw_ck (tw_ok (6 : Int32) (tw_ln 444)) (
tw_jn (fun (a6 : Unit) =>
some ((1 : Int32), σ5)) (fun (j7 : (Unit) → Option (Int32 × tw_Sg)) =>
if ¬ (σ5 444 (Int32.toNatClampNeg (6 : Int32))) = (1 : Int32) then (j7 ())
else (tw_ck (tw_ok (7 : Int32) (tw_ln 444)) (
tw_ck (tw_ok (4 : Int32) (tw_ln 444)) (
if (σ5 444 (Int32.toNatClampNeg (7 : Int32))) = (σ5 444 (Int32.toNatClampNeg (4 : Int32))) then (tw_ck (tw_ok (6 : Int32) (tw_ln 444)) (tw_lt (tw_up σ5 444 (Int32.toNatClampNeg (6 : Int32)) (2 : Int32)) (fun (σ8 : tw_Sg) =>
some ((2 : Int32), σ8))))
else (j7 ())))))))
else (some ((0 : Int32), σ5))))))))))
theorem tw_y_X12_dig : tw_My yX12_dig cX12_dig 3 (some .int) 0 := ⟨List.mem_of_getElem? tw_w1684, List.mem_of_getElem? tw_w101, by decide +kernel, by decide +kernel, by decide +kernel⟩
theorem tw_v_X12_dig : tw_Mv yX12_dig "TreasureWalkModel" := ⟨List.mem_of_getElem? tw_w1682, List.mem_of_getElem? tw_w1683, rfl⟩
set_option maxRecDepth 100000 in
set_option maxHeartbeats 4000000 in
theorem tw_m_X12_dig {l : Launch} {B : Nat} {D : va_G} {C : Nat → ClassId} {S : Nat → Nat} {n : Nat}  {σ : tw_Sg}  {r : Int32 × tw_Sg} (h : tw_P_X12_dig n σ = some r) : tw_Met l B D C S yX12_dig cX12_dig 3 (some .int) ({ frames := 2, cells := 0, slots := 0, locals := 43 } : Room) [.ref (B + 442)] σ (some (.int r.1)) r.2 := by
  refine tw_metOfP (tw_P_X12_dig n σ) r h (fun r => (some (.int r.1), r.2)) (by decide +kernel) (Nat.le_of_ble_eq_true rfl) ⟨rfl, rfl⟩ ?_
  intro z el eB eD eC eS hfr hlo hcs X hret hQ
  subst el eB eD eC eS
  have X : tw_X z cX12_dig "TreasureWalkModel" 3 := X
  show tw_Rf z r _ σ 0 [(0, .ref (tw_zB z + 442))] []
  unfold tw_P_X12_dig
  refine r_aload_n X dX12_dig_0 rfl 0 rfl ?_
  refine r_iconst X dX12_dig_1 (v := (0 : Int32)) (by decide) ?_
  refine tw_s12_0 (k := 442) X dX12_dig_2 _ tw_w1252 tw_kc442 (fun σ1 => ?_)
  refine r_aload_n X dX12_dig_5 rfl 0 rfl ?_
  refine r_bd (fun r2 hr2 => ?_)
  refine tw_c_X12_remember X dX12_dig_6 _ tw_w1492  hr2 (tw_le hfr rfl) (tw_le hlo rfl) hcs (Nat.le_of_ble_eq_true rfl) trivial ?_
  refine r_sipush X dX12_dig_9 (v := (408 : Int32)) (by decide) ?_
  refine r_aload_n X dX12_dig_12 rfl 0 rfl ?_
  refine tw_g12_8 (k := 442) (v := .ref (tw_zB z + 444)) X dX12_dig_13 _ tw_w1260 tw_kc442 rfl ?_
  refine r_iconst X dX12_dig_16 (v := (4 : Int32)) (by decide) ?_
  refine r_iald (k := 444) X dX12_dig_17 tw_kc444 ?_
  refine r_iadd X dX12_dig_18 ?_
  refine r_istore_n X dX12_dig_19 rfl (by decide) (LL := fun v3 => [(1, .int v3), (0, .ref (tw_zB z + 442))]) (fun _ => rfl) (fun v3 => ?_)
  refine r_aload_n X dX12_dig_20 rfl 1 rfl ?_
  refine tw_g12_8 (k := 442) (v := .ref (tw_zB z + 444)) X dX12_dig_21 _ tw_w1260 tw_kc442 rfl ?_
  refine r_iload_n X dX12_dig_24 rfl 0 rfl ?_
  refine r_iald (k := 444) X dX12_dig_25 tw_kc444 ?_
  refine r_istore_n X dX12_dig_26 rfl (by decide) (LL := fun v4 => [(2, .int v4), (1, .int v3), (0, .ref (tw_zB z + 442))]) (fun _ => rfl) (fun v4 => ?_)
  refine r_aload_n X dX12_dig_27 rfl 2 rfl ?_
  refine tw_g12_8 (k := 442) (v := .ref (tw_zB z + 444)) X dX12_dig_28 _ tw_w1260 tw_kc442 rfl ?_
  refine r_iload_n X dX12_dig_31 rfl 1 rfl ?_
  refine r_iconst X dX12_dig_32 (v := (1 : Int32)) (by decide) ?_
  refine r_iast (k := 444) X dX12_dig_33 tw_kc444 (fun σ5 => ?_)
  refine r_iload_n X dX12_dig_34 rfl 0 rfl ?_
  refine r_iconst X dX12_dig_35 (v := (1 : Int32)) (by decide) ?_
  refine r_icmp_ne X dX12_dig_36 (tgt := 41) (by decide) ?_ ?_
  ·
    refine r_aload_n X dX12_dig_41 rfl 2 rfl ?_
    refine tw_g12_8 (k := 442) (v := .ref (tw_zB z + 444)) X dX12_dig_42 _ tw_w1260 tw_kc442 rfl ?_
    refine r_bipush X dX12_dig_45 (v := (6 : Int32)) (by decide) ?_
    refine r_iald (k := 444) X dX12_dig_47 tw_kc444 ?_
    refine r_iconst X dX12_dig_48 (v := (1 : Int32)) (by decide) ?_
    refine r_jn (α := Unit) (σJ := fun a6 => σ5) (pcJ := 68) (LJ := fun a6 => []) (stJ := fun a6 => []) (ok := fun a6 => True) (fun a6 hoka6 => ?_) (fun j7 hj7 => ?_)
    ·
      refine r_iconst X dX12_dig_68 (v := (1 : Int32)) (by decide) ?_
      exact r_iret X dX12_dig_69 hret hQ rfl
    refine r_icmp_ne X dX12_dig_49 (tgt := 68) (by decide) ?_ ?_
    ·
      exact tw_Rf.sub [] rfl (hj7 () trivial)
    ·
      refine r_aload_n X dX12_dig_52 rfl 2 rfl ?_
      refine tw_g12_8 (k := 442) (v := .ref (tw_zB z + 444)) X dX12_dig_53 _ tw_w1260 tw_kc442 rfl ?_
      refine r_bipush X dX12_dig_56 (v := (7 : Int32)) (by decide) ?_
      refine r_iald (k := 444) X dX12_dig_58 tw_kc444 ?_
      refine r_aload_n X dX12_dig_59 rfl 2 rfl ?_
      refine tw_g12_8 (k := 442) (v := .ref (tw_zB z + 444)) X dX12_dig_60 _ tw_w1260 tw_kc442 rfl ?_
      refine r_iconst X dX12_dig_63 (v := (4 : Int32)) (by decide) ?_
      refine r_iald (k := 444) X dX12_dig_64 tw_kc444 ?_
      refine r_icmp_eq X dX12_dig_65 (tgt := 70) (by decide) ?_ ?_
      ·
        refine r_aload_n X dX12_dig_70 rfl 2 rfl ?_
        refine tw_g12_8 (k := 442) (v := .ref (tw_zB z + 444)) X dX12_dig_71 _ tw_w1260 tw_kc442 rfl ?_
        refine r_bipush X dX12_dig_74 (v := (6 : Int32)) (by decide) ?_
        refine r_iconst X dX12_dig_76 (v := (2 : Int32)) (by decide) ?_
        refine r_iast (k := 444) X dX12_dig_77 tw_kc444 (fun σ8 => ?_)
        refine r_iconst X dX12_dig_78 (v := (2 : Int32)) (by decide) ?_
        exact r_iret X dX12_dig_79 hret hQ rfl
      ·
        exact tw_Rf.sub [] rfl (hj7 () trivial)
  ·
    refine r_iconst X dX12_dig_39 (v := (0 : Int32)) (by decide) ?_
    exact r_iret X dX12_dig_40 hret hQ rfl
theorem tw_c_X12_dig {ρ : Type} {z : tw_Z} {cc : ByteArray} {own : String} {nL pc : Nat} {σ : tw_Sg} {L : List (Nat × Value)} {st : List Value} {ix : Nat} {n : Nat}  (X : tw_X z cc own nL) (d : decode cc pc = .ok (.invokevirtual ix, 3)) (i : Nat) (hi : lw_tbl[i]? = some (.methodLink own ix yX12_dig))  {res : ρ} {E : Option ρ} {r : Int32 × tw_Sg} (h : tw_P_X12_dig n σ = some r) (h1 : 3 ≤ (tw_zR z).frames) (h2 : 65 ≤ (tw_zR z).locals) (hcs : tw_zcells z ≤ (tw_zR z).cells ∧ tw_zslots z ≤ (tw_zR z).slots) (hst : (st.map fun v => v.category).sum ≤ 8) (_ : True) (kk : tw_Rf z res E r.2 (pc + 3) L (.int r.1 :: st)) : tw_Rf z res E σ pc L (.ref (tw_zB z + 442) :: st) := r_callV (As := []) X d (tw_m_X12_dig  h) tw_y_X12_dig tw_v_X12_dig i hi rfl (tw_kd_lt tw_kc442 (by decide)) (tw_E12 tw_kc442) rfl ⟨rfl, rfl, h1, h2⟩ hcs hst rfl kk
def tw_P_X12_use (n : Nat) (x0 : Int32) (x1 : Int32) (σ : tw_Sg) : Option (Int32 × tw_Sg) :=
tw_lt (tw_up σ 442 0 (0 : Int32)) (fun (σ1 : tw_Sg) =>
tw_bd (tw_P_X12_noClue x0 σ1) (fun r2 =>
if r2.1 = 0 then (tw_bd (tw_P_X12_remember n r2.2) (fun r3 =>
tw_bd (tw_P_X12_clueAt x0 r3) (fun r4 =>
tw_jn (fun (a5 : Int32) =>
tw_ck (tw_ok (r4 + (0 : Int32)) (tw_ln 444)) (tw_lt (tw_up r3 444 (Int32.toNatClampNeg (r4 + (0 : Int32))) a5) (fun (σ7 : tw_Sg) =>
tw_bd (tw_P_X12_count n (1 : Int32) σ7) (fun r8 =>
some (r8.1, r8.2))))) (fun (j6 : (Int32) → Option (Int32 × tw_Sg)) =>
if x1 = 0 then (j6 (0 : Int32))
else (j6 (1 : Int32))))))
else (some ((0 : Int32), r2.2))))
theorem tw_y_X12_use : tw_My yX12_use cX12_use 3 (some .int) 2 := ⟨List.mem_of_getElem? tw_w1688, List.mem_of_getElem? tw_w101, by decide +kernel, by decide +kernel, by decide +kernel⟩
theorem tw_v_X12_use : tw_Mv yX12_use "TreasureWalkModel" := ⟨List.mem_of_getElem? tw_w1686, List.mem_of_getElem? tw_w1687, rfl⟩
set_option maxRecDepth 100000 in
set_option maxHeartbeats 4000000 in
theorem tw_m_X12_use {l : Launch} {B : Nat} {D : va_G} {C : Nat → ClassId} {S : Nat → Nat} {n : Nat} {x0 : Int32} {x1 : Int32} {σ : tw_Sg}  {r : Int32 × tw_Sg} (h : tw_P_X12_use n x0 x1 σ = some r) : tw_Met l B D C S yX12_use cX12_use 3 (some .int) ({ frames := 10, cells := 0, slots := 0, locals := 238 } : Room) [.ref (B + 442), .int x0, .int x1] σ (some (.int r.1)) r.2 := by
  refine tw_metOfP (tw_P_X12_use n x0 x1 σ) r h (fun r => (some (.int r.1), r.2)) (by decide +kernel) (Nat.le_of_ble_eq_true rfl) ⟨rfl, rfl⟩ ?_
  intro z el eB eD eC eS hfr hlo hcs X hret hQ
  subst el eB eD eC eS
  have X : tw_X z cX12_use "TreasureWalkModel" 3 := X
  show tw_Rf z r _ σ 0 [(0, .ref (tw_zB z + 442)), (1, .int x0), (2, .int x1)] []
  unfold tw_P_X12_use
  refine r_aload_n X dX12_use_0 rfl 0 rfl ?_
  refine r_iconst X dX12_use_1 (v := (0 : Int32)) (by decide) ?_
  refine tw_s12_0 (k := 442) X dX12_use_2 _ tw_w1252 tw_kc442 (fun σ1 => ?_)
  refine r_aload_n X dX12_use_5 rfl 0 rfl ?_
  refine r_iload_n X dX12_use_6 rfl 1 rfl ?_
  refine r_bd (fun r2 hr2 => ?_)
  refine tw_c_X12_noClue X dX12_use_7 _ tw_w1612  hr2 (tw_le hfr rfl) (tw_le hlo rfl) hcs (Nat.le_of_ble_eq_true rfl) trivial ?_
  refine r_if_eq X dX12_use_10 (tgt := 15) (by decide) ?_ ?_
  ·
    refine r_aload_n X dX12_use_15 rfl 0 rfl ?_
    refine r_bd (fun r3 hr3 => ?_)
    refine tw_c_X12_remember X dX12_use_16 _ tw_w1492  hr3 (tw_le hfr rfl) (tw_le hlo rfl) hcs (Nat.le_of_ble_eq_true rfl) trivial ?_
    refine r_aload_n X dX12_use_19 rfl 0 rfl ?_
    refine tw_g12_8 (k := 442) (v := .ref (tw_zB z + 444)) X dX12_use_20 _ tw_w1260 tw_kc442 rfl ?_
    refine r_iload_n X dX12_use_23 rfl 1 rfl ?_
    refine r_bd (fun r4 hr4 => ?_)
    refine tw_c_X12_clueAt X dX12_use_24 _ tw_w1460  hr4 (tw_le hfr rfl) (tw_le hlo rfl) hcs (Nat.le_of_ble_eq_true rfl) trivial ?_
    refine r_iconst X dX12_use_27 (v := (0 : Int32)) (by decide) ?_
    refine r_iadd X dX12_use_28 ?_
    refine r_iload_n X dX12_use_29 rfl 2 rfl ?_
    refine r_jn (α := Int32) (σJ := fun a5 => r3) (pcJ := 38) (LJ := fun a5 => [(0, .ref (tw_zB z + 442))]) (stJ := fun a5 => [.int a5, .int (r4 + (0 : Int32)), .ref (tw_zB z + 444)]) (ok := fun a5 => True) (fun a5 hoka5 => ?_) (fun j6 hj6 => ?_)
    ·
      refine r_iast (k := 444) X dX12_use_38 tw_kc444 (fun σ7 => ?_)
      refine r_aload_n X dX12_use_39 rfl 0 rfl ?_
      refine r_iconst X dX12_use_40 (v := (1 : Int32)) (by decide) ?_
      refine r_bd (fun r8 hr8 => ?_)
      refine tw_c_X12_count X dX12_use_41 _ tw_w1519  hr8 (tw_le hfr rfl) (tw_le hlo rfl) hcs (Nat.le_of_ble_eq_true rfl) trivial ?_
      exact r_iret X dX12_use_44 hret hQ rfl
    refine r_if_eq X dX12_use_30 (tgt := 37) (by decide) ?_ ?_
    ·
      refine r_iconst X dX12_use_37 (v := (0 : Int32)) (by decide) ?_
      exact tw_Rf.sub [0] rfl (hj6 (0 : Int32) trivial)
    ·
      refine r_iconst X dX12_use_33 (v := (1 : Int32)) (by decide) ?_
      refine r_goto X dX12_use_34 (tgt := 38) (by decide) ?_
      exact tw_Rf.sub [0] rfl (hj6 (1 : Int32) trivial)
  ·
    refine r_iconst X dX12_use_13 (v := (0 : Int32)) (by decide) ?_
    exact r_iret X dX12_use_14 hret hQ rfl
theorem tw_c_X12_use {ρ : Type} {z : tw_Z} {cc : ByteArray} {own : String} {nL pc : Nat} {σ : tw_Sg} {L : List (Nat × Value)} {st : List Value} {ix : Nat} {n : Nat} {x0 : Int32} {x1 : Int32} (X : tw_X z cc own nL) (d : decode cc pc = .ok (.invokevirtual ix, 3)) (i : Nat) (hi : lw_tbl[i]? = some (.methodLink own ix yX12_use))  {res : ρ} {E : Option ρ} {r : Int32 × tw_Sg} (h : tw_P_X12_use n x0 x1 σ = some r) (h1 : 11 ≤ (tw_zR z).frames) (h2 : 260 ≤ (tw_zR z).locals) (hcs : tw_zcells z ≤ (tw_zR z).cells ∧ tw_zslots z ≤ (tw_zR z).slots) (hst : (st.map fun v => v.category).sum ≤ 8) (_ : True) (kk : tw_Rf z res E r.2 (pc + 3) L (.int r.1 :: st)) : tw_Rf z res E σ pc L (.int x1 :: .int x0 :: .ref (tw_zB z + 442) :: st) := r_callV (As := [.int x0, .int x1]) X d (tw_m_X12_use  h) tw_y_X12_use tw_v_X12_use i hi rfl (tw_kd_lt tw_kc442 (by decide)) (tw_E12 tw_kc442) rfl ⟨rfl, rfl, h1, h2⟩ hcs hst rfl kk
def tw_P_X12_hide (n : Nat) (x0 : Int32) (σ : tw_Sg) : Option (Int32 × tw_Sg) :=
tw_lt (tw_up σ 442 0 (0 : Int32)) (fun (σ1 : tw_Sg) =>
tw_bd (tw_P_X12_in x0 (0 : Int32) (9999 : Int32) σ1) (fun r2 =>
tw_jn (fun (a3 : Int32) =>
tw_bd (tw_P_X12_fails a3 (1 : Int32) σ1) (fun r5 =>
if r5.1 = 0 then (tw_bd (tw_P_X12_remember n r5.2) (fun r6 =>
tw_bd (tw_P_X12_count n (1 : Int32) r6) (fun r7 =>
tw_lt r7.1 (fun (v8 : Int32) =>
tw_jn (fun (a9 : Int32) =>
tw_lt a9 (fun (v11 : Int32) =>
tw_jn (fun (a12 : Int32) =>
tw_ck (tw_ok (6 : Int32) (tw_ln 444)) (tw_lt (tw_up r7.2 444 (Int32.toNatClampNeg (6 : Int32)) a12) (fun (σ14 : tw_Sg) =>
tw_ck (tw_ok (7 : Int32) (tw_ln 444)) (tw_lt (tw_up σ14 444 (Int32.toNatClampNeg (7 : Int32)) (0 : Int32)) (fun (σ15 : tw_Sg) =>
tw_lt (0 : Int32) (fun (v16 : Int32) =>
tw_lp (fun (k18 : (Int32 × Int32 × tw_Sg) → Option (Int32 × tw_Sg)) (a17 : Int32 × Int32 × tw_Sg) =>
tw_bd (tw_P_X12_cells a17.2.2) (fun r19 =>
tw_jn (fun (a20 : Unit) =>
some (v8, a17.2.2)) (fun (j21 : (Unit) → Option (Int32 × tw_Sg)) =>
if r19 ≤ a17.2.1 then (j21 ())
else (if v8 ≤ 0 then (j21 ())
else (tw_bd (tw_P_X12_isLeft n a17.2.1 a17.2.2) (fun r22 =>
tw_jn (fun (a23 : Int32 × tw_Sg) =>
tw_lt (a17.2.1 + (1 : Int32)) (fun (v25 : Int32) =>
k18 (a23.1, v25, a23.2))) (fun (j24 : (Int32 × tw_Sg) → Option (Int32 × tw_Sg)) =>
if ¬ r22.1 = 0 then (tw_jn (fun (a26 : tw_Sg) =>
tw_lt (a17.1 + (-1 : Int32)) (fun (v28 : Int32) =>
j24 (v28, a26))) (fun (j27 : (tw_Sg) → Option (Int32 × tw_Sg)) =>
if ¬ a17.1 = 0 then (j27 r22.2)
else (tw_ck (tw_ok (7 : Int32) (tw_ln 444)) (tw_lt (tw_up r22.2 444 (Int32.toNatClampNeg (7 : Int32)) a17.2.1) (fun (σ29 : tw_Sg) =>
j27 σ29)))))
else (j24 (a17.1, r22.2))))))))) n (v11, v16, σ15))))))) (fun (j13 : (Int32) → Option (Int32 × tw_Sg)) =>
if ¬ v8 = 0 then (j13 (1 : Int32))
else (j13 (0 : Int32))))) (fun (j10 : (Int32) → Option (Int32 × tw_Sg)) =>
if ¬ v8 = 0 then (tw_ck (!decide (v8 = 0)) (
j10 (x0 - x0 / v8 * v8)))
else (j10 (0 : Int32)))))))
else (some ((0 : Int32), r5.2)))) (fun (j4 : (Int32) → Option (Int32 × tw_Sg)) =>
if ¬ r2 = 0 then (j4 (0 : Int32))
else (j4 (1 : Int32)))))
theorem tw_y_X12_hide : tw_My yX12_hide cX12_hide 5 (some .int) 1 := ⟨List.mem_of_getElem? tw_w1692, List.mem_of_getElem? tw_w101, by decide +kernel, by decide +kernel, by decide +kernel⟩
theorem tw_v_X12_hide : tw_Mv yX12_hide "TreasureWalkModel" := ⟨List.mem_of_getElem? tw_w1690, List.mem_of_getElem? tw_w1691, rfl⟩
set_option maxRecDepth 100000 in
set_option maxHeartbeats 4000000 in
theorem tw_m_X12_hide {l : Launch} {B : Nat} {D : va_G} {C : Nat → ClassId} {S : Nat → Nat} {n : Nat} {x0 : Int32} {σ : tw_Sg}  {r : Int32 × tw_Sg} (h : tw_P_X12_hide n x0 σ = some r) : tw_Met l B D C S yX12_hide cX12_hide 5 (some .int) ({ frames := 10, cells := 0, slots := 0, locals := 238 } : Room) [.ref (B + 442), .int x0] σ (some (.int r.1)) r.2 := by
  refine tw_metOfP (tw_P_X12_hide n x0 σ) r h (fun r => (some (.int r.1), r.2)) (by decide +kernel) (Nat.le_of_ble_eq_true rfl) ⟨rfl, rfl⟩ ?_
  intro z el eB eD eC eS hfr hlo hcs X hret hQ
  subst el eB eD eC eS
  have X : tw_X z cX12_hide "TreasureWalkModel" 5 := X
  show tw_Rf z r _ σ 0 [(0, .ref (tw_zB z + 442)), (1, .int x0)] []
  unfold tw_P_X12_hide
  refine r_aload_n X dX12_hide_0 rfl 0 rfl ?_
  refine r_iconst X dX12_hide_1 (v := (0 : Int32)) (by decide) ?_
  refine tw_s12_0 (k := 442) X dX12_hide_2 _ tw_w1252 tw_kc442 (fun σ1 => ?_)
  refine r_aload_n X dX12_hide_5 rfl 0 rfl ?_
  refine r_iload_n X dX12_hide_6 rfl 1 rfl ?_
  refine r_iconst X dX12_hide_7 (v := (0 : Int32)) (by decide) ?_
  refine r_sipush X dX12_hide_8 (v := (9999 : Int32)) (by decide) ?_
  refine r_bd (fun r2 hr2 => ?_)
  refine tw_c_X12_in X dX12_hide_11 _ tw_w1359  hr2 (tw_le hfr rfl) (tw_le hlo rfl) hcs (Nat.le_of_ble_eq_true rfl) trivial ?_
  refine r_jn (α := Int32) (σJ := fun a3 => σ1) (pcJ := 22) (LJ := fun a3 => [(0, .ref (tw_zB z + 442)), (1, .int x0)]) (stJ := fun a3 => [.int a3, .ref (tw_zB z + 442)]) (ok := fun a3 => True) (fun a3 hoka3 => ?_) (fun j4 hj4 => ?_)
  ·
    refine r_iconst X dX12_hide_22 (v := (1 : Int32)) (by decide) ?_
    refine r_bd (fun r5 hr5 => ?_)
    refine tw_c_X12_fails X dX12_hide_23 _ tw_w1362  hr5 (tw_le hfr rfl) (tw_le hlo rfl) hcs (Nat.le_of_ble_eq_true rfl) trivial ?_
    refine r_if_eq X dX12_hide_26 (tgt := 31) (by decide) ?_ ?_
    ·
      refine r_aload_n X dX12_hide_31 rfl 0 rfl ?_
      refine r_bd (fun r6 hr6 => ?_)
      refine tw_c_X12_remember X dX12_hide_32 _ tw_w1492  hr6 (tw_le hfr rfl) (tw_le hlo rfl) hcs (Nat.le_of_ble_eq_true rfl) trivial ?_
      refine r_aload_n X dX12_hide_35 rfl 0 rfl ?_
      refine r_iconst X dX12_hide_36 (v := (1 : Int32)) (by decide) ?_
      refine r_bd (fun r7 hr7 => ?_)
      refine tw_c_X12_count X dX12_hide_37 _ tw_w1519  hr7 (tw_le hfr rfl) (tw_le hlo rfl) hcs (Nat.le_of_ble_eq_true rfl) trivial ?_
      refine r_istore_n X dX12_hide_40 rfl (by decide) (LL := fun v8 => [(2, .int v8), (0, .ref (tw_zB z + 442)), (1, .int x0)]) (fun _ => rfl) (fun v8 => ?_)
      refine r_iload_n X dX12_hide_41 rfl 0 rfl ?_
      refine r_jn (α := Int32) (σJ := fun a9 => r7.2) (pcJ := 52) (LJ := fun a9 => [(2, .int v8), (0, .ref (tw_zB z + 442))]) (stJ := fun a9 => [.int a9]) (ok := fun a9 => True) (fun a9 hoka9 => ?_) (fun j10 hj10 => ?_)
      ·
        refine r_istore_n X dX12_hide_52 rfl (by decide) (LL := fun v11 => [(3, .int v11), (2, .int v8), (0, .ref (tw_zB z + 442))]) (fun _ => rfl) (fun v11 => ?_)
        refine r_aload_n X dX12_hide_53 rfl 2 rfl ?_
        refine tw_g12_8 (k := 442) (v := .ref (tw_zB z + 444)) X dX12_hide_54 _ tw_w1260 tw_kc442 rfl ?_
        refine r_bipush X dX12_hide_57 (v := (6 : Int32)) (by decide) ?_
        refine r_iload_n X dX12_hide_59 rfl 1 rfl ?_
        refine r_jn (α := Int32) (σJ := fun a12 => r7.2) (pcJ := 68) (LJ := fun a12 => [(3, .int v11), (2, .int v8), (0, .ref (tw_zB z + 442))]) (stJ := fun a12 => [.int a12, .int (6 : Int32), .ref (tw_zB z + 444)]) (ok := fun a12 => True) (fun a12 hoka12 => ?_) (fun j13 hj13 => ?_)
        ·
          refine r_iast (k := 444) X dX12_hide_68 tw_kc444 (fun σ14 => ?_)
          refine r_aload_n X dX12_hide_69 rfl 2 rfl ?_
          refine tw_g12_8 (k := 442) (v := .ref (tw_zB z + 444)) X dX12_hide_70 _ tw_w1260 tw_kc442 rfl ?_
          refine r_bipush X dX12_hide_73 (v := (7 : Int32)) (by decide) ?_
          refine r_iconst X dX12_hide_75 (v := (0 : Int32)) (by decide) ?_
          refine r_iast (k := 444) X dX12_hide_76 tw_kc444 (fun σ15 => ?_)
          refine r_iconst X dX12_hide_77 (v := (0 : Int32)) (by decide) ?_
          refine r_istore X dX12_hide_78 (by decide) (LL := fun v16 => [(4, .int v16), (3, .int v11), (2, .int v8), (0, .ref (tw_zB z + 442))]) (fun _ => rfl) (fun v16 => ?_)
          refine r_lp (α := Int32 × Int32 × tw_Sg) (σJ := fun a17 => a17.2.2) (pcJ := 80) (LJ := fun a17 => [(4, .int a17.2.1), (3, .int a17.1), (2, .int v8), (0, .ref (tw_zB z + 442))]) (stJ := fun a17 => []) (fun k18 hk18 a17 => ?_) n (v11, v16, σ15)
          refine r_iload X dX12_hide_80 0 rfl ?_
          refine r_aload_n X dX12_hide_82 rfl 3 rfl ?_
          refine r_bd (fun r19 hr19 => ?_)
          refine tw_c_X12_cells X dX12_hide_83 _ tw_w1523  hr19 (tw_le hfr rfl) (tw_le hlo rfl) hcs (Nat.le_of_ble_eq_true rfl) trivial ?_
          refine r_jn (α := Unit) (σJ := fun a20 => a17.2.2) (pcJ := 127) (LJ := fun a20 => [(2, .int v8)]) (stJ := fun a20 => []) (ok := fun a20 => True) (fun a20 hoka20 => ?_) (fun j21 hj21 => ?_)
          ·
            refine r_iload_n X dX12_hide_127 rfl 0 rfl ?_
            exact r_iret X dX12_hide_128 hret hQ rfl
          refine r_icmp_ge X dX12_hide_86 (tgt := 127) (by decide) ?_ ?_
          ·
            exact tw_Rf.sub [2] rfl (hj21 () trivial)
          ·
            refine r_iload_n X dX12_hide_89 rfl 2 rfl ?_
            refine r_if_le X dX12_hide_90 (tgt := 127) (by decide) ?_ ?_
            ·
              exact tw_Rf.sub [2] rfl (hj21 () trivial)
            ·
              refine r_aload_n X dX12_hide_93 rfl 3 rfl ?_
              refine r_iload X dX12_hide_94 0 rfl ?_
              refine r_bd (fun r22 hr22 => ?_)
              refine tw_c_X12_isLeft X dX12_hide_96 _ tw_w1584  hr22 (tw_le hfr rfl) (tw_le hlo rfl) hcs (Nat.le_of_ble_eq_true rfl) trivial ?_
              refine r_jn (α := Int32 × tw_Sg) (σJ := fun a23 => a23.2) (pcJ := 121) (LJ := fun a23 => [(4, .int a17.2.1), (3, .int a23.1), (2, .int v8), (0, .ref (tw_zB z + 442))]) (stJ := fun a23 => []) (ok := fun a23 => True) (fun a23 hoka23 => ?_) (fun j24 hj24 => ?_)
              ·
                refine r_iinc X dX12_hide_121 0 rfl (v := (1 : Int32)) (by decide) (by decide) (LL := fun v25 => [(4, .int v25), (3, .int a23.1), (2, .int v8), (0, .ref (tw_zB z + 442))]) (fun _ => rfl) (fun v25 => ?_)
                refine r_goto X dX12_hide_124 (tgt := 80) (by decide) ?_
                exact hk18 (a23.1, v25, a23.2)
              refine r_if_ne X dX12_hide_99 (tgt := 105) (by decide) ?_ ?_
              ·
                refine r_iload_n X dX12_hide_105 rfl 1 rfl ?_
                refine r_jn (α := tw_Sg) (σJ := fun a26 => a26) (pcJ := 118) (LJ := fun a26 => [(4, .int a17.2.1), (3, .int a17.1), (2, .int v8), (0, .ref (tw_zB z + 442))]) (stJ := fun a26 => []) (ok := fun a26 => True) (fun a26 hoka26 => ?_) (fun j27 hj27 => ?_)
                ·
                  refine r_iinc X dX12_hide_118 1 rfl (v := (-1 : Int32)) (by decide) (by decide) (LL := fun v28 => [(3, .int v28), (4, .int a17.2.1), (2, .int v8), (0, .ref (tw_zB z + 442))]) (fun _ => rfl) (fun v28 => ?_)
                  exact tw_Rf.sub [1, 0, 2, 3] rfl (hj24 (v28, a26) trivial)
                refine r_if_ne X dX12_hide_106 (tgt := 118) (by decide) ?_ ?_
                ·
                  exact hj27 r22.2 trivial
                ·
                  refine r_aload_n X dX12_hide_109 rfl 3 rfl ?_
                  refine tw_g12_8 (k := 442) (v := .ref (tw_zB z + 444)) X dX12_hide_110 _ tw_w1260 tw_kc442 rfl ?_
                  refine r_bipush X dX12_hide_113 (v := (7 : Int32)) (by decide) ?_
                  refine r_iload X dX12_hide_115 0 rfl ?_
                  refine r_iast (k := 444) X dX12_hide_117 tw_kc444 (fun σ29 => ?_)
                  exact hj27 σ29 trivial
              ·
                refine r_goto X dX12_hide_102 (tgt := 121) (by decide) ?_
                exact hj24 (a17.1, r22.2) trivial
        refine r_if_ne X dX12_hide_60 (tgt := 67) (by decide) ?_ ?_
        ·
          refine r_iconst X dX12_hide_67 (v := (1 : Int32)) (by decide) ?_
          exact hj13 (1 : Int32) trivial
        ·
          refine r_iconst X dX12_hide_63 (v := (0 : Int32)) (by decide) ?_
          refine r_goto X dX12_hide_64 (tgt := 68) (by decide) ?_
          exact hj13 (0 : Int32) trivial
      refine r_if_ne X dX12_hide_42 (tgt := 49) (by decide) ?_ ?_
      ·
        refine r_iload_n X dX12_hide_49 rfl 2 rfl ?_
        refine r_iload_n X dX12_hide_50 rfl 0 rfl ?_
        refine r_irem X dX12_hide_51 ?_
        exact tw_Rf.sub [0, 1] rfl (hj10 (x0 - x0 / v8 * v8) trivial)
      ·
        refine r_iconst X dX12_hide_45 (v := (0 : Int32)) (by decide) ?_
        refine r_goto X dX12_hide_46 (tgt := 52) (by decide) ?_
        exact tw_Rf.sub [0, 1] rfl (hj10 (0 : Int32) trivial)
    ·
      refine r_iconst X dX12_hide_29 (v := (0 : Int32)) (by decide) ?_
      exact r_iret X dX12_hide_30 hret hQ rfl
  refine r_if_ne X dX12_hide_14 (tgt := 21) (by decide) ?_ ?_
  ·
    refine r_iconst X dX12_hide_21 (v := (0 : Int32)) (by decide) ?_
    exact hj4 (0 : Int32) trivial
  ·
    refine r_iconst X dX12_hide_17 (v := (1 : Int32)) (by decide) ?_
    refine r_goto X dX12_hide_18 (tgt := 22) (by decide) ?_
    exact hj4 (1 : Int32) trivial
theorem tw_c_X12_hide {ρ : Type} {z : tw_Z} {cc : ByteArray} {own : String} {nL pc : Nat} {σ : tw_Sg} {L : List (Nat × Value)} {st : List Value} {ix : Nat} {n : Nat} {x0 : Int32} (X : tw_X z cc own nL) (d : decode cc pc = .ok (.invokevirtual ix, 3)) (i : Nat) (hi : lw_tbl[i]? = some (.methodLink own ix yX12_hide))  {res : ρ} {E : Option ρ} {r : Int32 × tw_Sg} (h : tw_P_X12_hide n x0 σ = some r) (h1 : 11 ≤ (tw_zR z).frames) (h2 : 262 ≤ (tw_zR z).locals) (hcs : tw_zcells z ≤ (tw_zR z).cells ∧ tw_zslots z ≤ (tw_zR z).slots) (hst : (st.map fun v => v.category).sum ≤ 8) (_ : True) (kk : tw_Rf z res E r.2 (pc + 3) L (.int r.1 :: st)) : tw_Rf z res E σ pc L (.int x0 :: .ref (tw_zB z + 442) :: st) := r_callV (As := [.int x0]) X d (tw_m_X12_hide  h) tw_y_X12_hide tw_v_X12_hide i hi rfl (tw_kd_lt tw_kc442 (by decide)) (tw_E12 tw_kc442) rfl ⟨rfl, rfl, h1, h2⟩ hcs hst rfl kk
def tw_P_X12_turn (n : Nat) (x0 : Int32) (x1 : Int32) (σ : tw_Sg) : Option (Int32 × tw_Sg) :=
tw_lt (tw_up σ 442 0 (0 : Int32)) (fun (σ1 : tw_Sg) =>
tw_ck (tw_ok (2 : Int32) (tw_ln 444)) (
tw_bd (tw_P_X12_in x0 (0 : Int32) ((σ1 444 (Int32.toNatClampNeg (2 : Int32))) - (1 : Int32)) σ1) (fun r2 =>
tw_jn (fun (a3 : Int32) =>
tw_bd (tw_P_X12_fails a3 (1 : Int32) σ1) (fun r5 =>
tw_jn (fun (a6 : tw_Sg) =>
some ((0 : Int32), a6)) (fun (j7 : (tw_Sg) → Option (Int32 × tw_Sg)) =>
if ¬ r5.1 = 0 then (j7 r5.2)
else (tw_bd (tw_P_X12_in x1 (-3 : Int32) (3 : Int32) r5.2) (fun r8 =>
tw_jn (fun (a9 : Int32) =>
tw_bd (tw_P_X12_fails a9 (2 : Int32) r5.2) (fun r11 =>
if r11.1 = 0 then (tw_bd (tw_P_X12_remember n r11.2) (fun r12 =>
tw_bd (tw_P_X12_bendAt x0 r12) (fun r13 =>
tw_lt (r13 + (4 : Int32)) (fun (v14 : Int32) =>
tw_ck (tw_ok v14 (tw_ln 444)) (
tw_lt (r12 444 (Int32.toNatClampNeg v14)) (fun (v15 : Int32) =>
tw_ck (tw_ok v14 (tw_ln 444)) (tw_lt (tw_up r12 444 (Int32.toNatClampNeg v14) x1) (fun (σ16 : tw_Sg) =>
some (v15, σ16)))))))))
else (j7 r11.2))) (fun (j10 : (Int32) → Option (Int32 × tw_Sg)) =>
if ¬ r8 = 0 then (j10 (0 : Int32))
else (j10 (1 : Int32)))))))) (fun (j4 : (Int32) → Option (Int32 × tw_Sg)) =>
if ¬ r2 = 0 then (j4 (0 : Int32))
else (j4 (1 : Int32))))))
theorem tw_y_X12_turn : tw_My yX12_turn cX12_turn 5 (some .int) 2 := ⟨List.mem_of_getElem? tw_w1696, List.mem_of_getElem? tw_w101, by decide +kernel, by decide +kernel, by decide +kernel⟩
theorem tw_v_X12_turn : tw_Mv yX12_turn "TreasureWalkModel" := ⟨List.mem_of_getElem? tw_w1694, List.mem_of_getElem? tw_w1695, rfl⟩
set_option maxRecDepth 100000 in
set_option maxHeartbeats 4000000 in
theorem tw_m_X12_turn {l : Launch} {B : Nat} {D : va_G} {C : Nat → ClassId} {S : Nat → Nat} {n : Nat} {x0 : Int32} {x1 : Int32} {σ : tw_Sg}  {r : Int32 × tw_Sg} (h : tw_P_X12_turn n x0 x1 σ = some r) : tw_Met l B D C S yX12_turn cX12_turn 5 (some .int) ({ frames := 2, cells := 0, slots := 0, locals := 43 } : Room) [.ref (B + 442), .int x0, .int x1] σ (some (.int r.1)) r.2 := by
  refine tw_metOfP (tw_P_X12_turn n x0 x1 σ) r h (fun r => (some (.int r.1), r.2)) (by decide +kernel) (Nat.le_of_ble_eq_true rfl) ⟨rfl, rfl⟩ ?_
  intro z el eB eD eC eS hfr hlo hcs X hret hQ
  subst el eB eD eC eS
  have X : tw_X z cX12_turn "TreasureWalkModel" 5 := X
  show tw_Rf z r _ σ 0 [(0, .ref (tw_zB z + 442)), (1, .int x0), (2, .int x1)] []
  unfold tw_P_X12_turn
  refine r_aload_n X dX12_turn_0 rfl 0 rfl ?_
  refine r_iconst X dX12_turn_1 (v := (0 : Int32)) (by decide) ?_
  refine tw_s12_0 (k := 442) X dX12_turn_2 _ tw_w1252 tw_kc442 (fun σ1 => ?_)
  refine r_aload_n X dX12_turn_5 rfl 0 rfl ?_
  refine r_iload_n X dX12_turn_6 rfl 1 rfl ?_
  refine r_iconst X dX12_turn_7 (v := (0 : Int32)) (by decide) ?_
  refine r_aload_n X dX12_turn_8 rfl 0 rfl ?_
  refine tw_g12_8 (k := 442) (v := .ref (tw_zB z + 444)) X dX12_turn_9 _ tw_w1260 tw_kc442 rfl ?_
  refine r_iconst X dX12_turn_12 (v := (2 : Int32)) (by decide) ?_
  refine r_iald (k := 444) X dX12_turn_13 tw_kc444 ?_
  refine r_iconst X dX12_turn_14 (v := (1 : Int32)) (by decide) ?_
  refine r_isub X dX12_turn_15 ?_
  refine r_bd (fun r2 hr2 => ?_)
  refine tw_c_X12_in X dX12_turn_16 _ tw_w1359  hr2 (tw_le hfr rfl) (tw_le hlo rfl) hcs (Nat.le_of_ble_eq_true rfl) trivial ?_
  refine r_jn (α := Int32) (σJ := fun a3 => σ1) (pcJ := 27) (LJ := fun a3 => [(0, .ref (tw_zB z + 442)), (1, .int x0), (2, .int x1)]) (stJ := fun a3 => [.int a3, .ref (tw_zB z + 442)]) (ok := fun a3 => True) (fun a3 hoka3 => ?_) (fun j4 hj4 => ?_)
  ·
    refine r_iconst X dX12_turn_27 (v := (1 : Int32)) (by decide) ?_
    refine r_bd (fun r5 hr5 => ?_)
    refine tw_c_X12_fails X dX12_turn_28 _ tw_w1362  hr5 (tw_le hfr rfl) (tw_le hlo rfl) hcs (Nat.le_of_ble_eq_true rfl) trivial ?_
    refine r_jn (α := tw_Sg) (σJ := fun a6 => a6) (pcJ := 57) (LJ := fun a6 => []) (stJ := fun a6 => []) (ok := fun a6 => True) (fun a6 hoka6 => ?_) (fun j7 hj7 => ?_)
    ·
      refine r_iconst X dX12_turn_57 (v := (0 : Int32)) (by decide) ?_
      exact r_iret X dX12_turn_58 hret hQ rfl
    refine r_if_ne X dX12_turn_31 (tgt := 57) (by decide) ?_ ?_
    ·
      exact tw_Rf.sub [] rfl (hj7 r5.2 trivial)
    ·
      refine r_aload_n X dX12_turn_34 rfl 0 rfl ?_
      refine r_iload_n X dX12_turn_35 rfl 2 rfl ?_
      refine r_bipush X dX12_turn_36 (v := (-3 : Int32)) (by decide) ?_
      refine r_iconst X dX12_turn_38 (v := (3 : Int32)) (by decide) ?_
      refine r_bd (fun r8 hr8 => ?_)
      refine tw_c_X12_in X dX12_turn_39 _ tw_w1359  hr8 (tw_le hfr rfl) (tw_le hlo rfl) hcs (Nat.le_of_ble_eq_true rfl) trivial ?_
      refine r_jn (α := Int32) (σJ := fun a9 => r5.2) (pcJ := 50) (LJ := fun a9 => [(0, .ref (tw_zB z + 442)), (1, .int x0), (2, .int x1)]) (stJ := fun a9 => [.int a9, .ref (tw_zB z + 442)]) (ok := fun a9 => True) (fun a9 hoka9 => ?_) (fun j10 hj10 => ?_)
      ·
        refine r_iconst X dX12_turn_50 (v := (2 : Int32)) (by decide) ?_
        refine r_bd (fun r11 hr11 => ?_)
        refine tw_c_X12_fails X dX12_turn_51 _ tw_w1362  hr11 (tw_le hfr rfl) (tw_le hlo rfl) hcs (Nat.le_of_ble_eq_true rfl) trivial ?_
        refine r_if_eq X dX12_turn_54 (tgt := 59) (by decide) ?_ ?_
        ·
          refine r_aload_n X dX12_turn_59 rfl 0 rfl ?_
          refine r_bd (fun r12 hr12 => ?_)
          refine tw_c_X12_remember X dX12_turn_60 _ tw_w1492  hr12 (tw_le hfr rfl) (tw_le hlo rfl) hcs (Nat.le_of_ble_eq_true rfl) trivial ?_
          refine r_iload_n X dX12_turn_63 rfl 1 rfl ?_
          refine r_bd (fun r13 hr13 => ?_)
          refine tw_c_X12_bendAt X dX12_turn_64 _ tw_w1434  hr13 (tw_le hfr rfl) (tw_le hlo rfl) hcs (Nat.le_of_ble_eq_true rfl) trivial ?_
          refine r_iconst X dX12_turn_67 (v := (4 : Int32)) (by decide) ?_
          refine r_iadd X dX12_turn_68 ?_
          refine r_istore_n X dX12_turn_69 rfl (by decide) (LL := fun v14 => [(3, .int v14), (0, .ref (tw_zB z + 442)), (1, .int x0), (2, .int x1)]) (fun _ => rfl) (fun v14 => ?_)
          refine r_aload_n X dX12_turn_70 rfl 1 rfl ?_
          refine tw_g12_8 (k := 442) (v := .ref (tw_zB z + 444)) X dX12_turn_71 _ tw_w1260 tw_kc442 rfl ?_
          refine r_iload_n X dX12_turn_74 rfl 0 rfl ?_
          refine r_iald (k := 444) X dX12_turn_75 tw_kc444 ?_
          refine r_istore X dX12_turn_76 (by decide) (LL := fun v15 => [(4, .int v15), (3, .int v14), (0, .ref (tw_zB z + 442)), (1, .int x0), (2, .int x1)]) (fun _ => rfl) (fun v15 => ?_)
          refine r_aload_n X dX12_turn_78 rfl 2 rfl ?_
          refine tw_g12_8 (k := 442) (v := .ref (tw_zB z + 444)) X dX12_turn_79 _ tw_w1260 tw_kc442 rfl ?_
          refine r_iload_n X dX12_turn_82 rfl 1 rfl ?_
          refine r_iload_n X dX12_turn_83 rfl 4 rfl ?_
          refine r_iast (k := 444) X dX12_turn_84 tw_kc444 (fun σ16 => ?_)
          refine r_iload X dX12_turn_85 0 rfl ?_
          exact r_iret X dX12_turn_87 hret hQ rfl
        ·
          exact tw_Rf.sub [] rfl (hj7 r11.2 trivial)
      refine r_if_ne X dX12_turn_42 (tgt := 49) (by decide) ?_ ?_
      ·
        refine r_iconst X dX12_turn_49 (v := (0 : Int32)) (by decide) ?_
        exact hj10 (0 : Int32) trivial
      ·
        refine r_iconst X dX12_turn_45 (v := (1 : Int32)) (by decide) ?_
        refine r_goto X dX12_turn_46 (tgt := 50) (by decide) ?_
        exact hj10 (1 : Int32) trivial
  refine r_if_ne X dX12_turn_19 (tgt := 26) (by decide) ?_ ?_
  ·
    refine r_iconst X dX12_turn_26 (v := (0 : Int32)) (by decide) ?_
    exact hj4 (0 : Int32) trivial
  ·
    refine r_iconst X dX12_turn_22 (v := (1 : Int32)) (by decide) ?_
    refine r_goto X dX12_turn_23 (tgt := 27) (by decide) ?_
    exact hj4 (1 : Int32) trivial
theorem tw_c_X12_turn {ρ : Type} {z : tw_Z} {cc : ByteArray} {own : String} {nL pc : Nat} {σ : tw_Sg} {L : List (Nat × Value)} {st : List Value} {ix : Nat} {n : Nat} {x0 : Int32} {x1 : Int32} (X : tw_X z cc own nL) (d : decode cc pc = .ok (.invokevirtual ix, 3)) (i : Nat) (hi : lw_tbl[i]? = some (.methodLink own ix yX12_turn))  {res : ρ} {E : Option ρ} {r : Int32 × tw_Sg} (h : tw_P_X12_turn n x0 x1 σ = some r) (h1 : 3 ≤ (tw_zR z).frames) (h2 : 67 ≤ (tw_zR z).locals) (hcs : tw_zcells z ≤ (tw_zR z).cells ∧ tw_zslots z ≤ (tw_zR z).slots) (hst : (st.map fun v => v.category).sum ≤ 8) (_ : True) (kk : tw_Rf z res E r.2 (pc + 3) L (.int r.1 :: st)) : tw_Rf z res E σ pc L (.int x1 :: .int x0 :: .ref (tw_zB z + 442) :: st) := r_callV (As := [.int x0, .int x1]) X d (tw_m_X12_turn  h) tw_y_X12_turn tw_v_X12_turn i hi rfl (tw_kd_lt tw_kc442 (by decide)) (tw_E12 tw_kc442) rfl ⟨rfl, rfl, h1, h2⟩ hcs hst rfl kk
def tw_P_X12_undo (n : Nat)  (σ : tw_Sg) : Option (Int32 × tw_Sg) :=
tw_lt (tw_up σ 442 0 (0 : Int32)) (fun (σ1 : tw_Sg) =>
if ¬ (σ1 442 11) = 0 then (tw_lt (tw_up σ1 442 11 ((σ1 442 11) - (1 : Int32))) (fun (σ2 : tw_Sg) =>
tw_ck (tw_ok (σ2 442 11) (tw_ln 446)) (
tw_bd (tw_P_X12_copy n (446 + 1 + 1 * Int32.toNatClampNeg (σ2 442 11)) 444 σ2) (fun r4 =>
tw_lt (tw_up r4 442 22 (0 : Int32)) (fun (σ5 : tw_Sg) =>
some ((σ5 442 11), σ5))))))
else (some ((-1 : Int32), σ1)))
theorem tw_y_X12_undo : tw_My yX12_undo cX12_undo 1 (some .int) 0 := ⟨List.mem_of_getElem? tw_w1700, List.mem_of_getElem? tw_w101, by decide +kernel, by decide +kernel, by decide +kernel⟩
theorem tw_v_X12_undo : tw_Mv yX12_undo "TreasureWalkModel" := ⟨List.mem_of_getElem? tw_w1698, List.mem_of_getElem? tw_w1699, rfl⟩
set_option maxRecDepth 100000 in
set_option maxHeartbeats 4000000 in
theorem tw_m_X12_undo {l : Launch} {B : Nat} {D : va_G} {C : Nat → ClassId} {S : Nat → Nat} {n : Nat}  {σ : tw_Sg}  {r : Int32 × tw_Sg} (h : tw_P_X12_undo n σ = some r) : tw_Met l B D C S yX12_undo cX12_undo 1 (some .int) ({ frames := 1, cells := 0, slots := 0, locals := 22 } : Room) [.ref (B + 442)] σ (some (.int r.1)) r.2 := by
  refine tw_metOfP (tw_P_X12_undo n σ) r h (fun r => (some (.int r.1), r.2)) (by decide +kernel) (Nat.le_of_ble_eq_true rfl) ⟨rfl, rfl⟩ ?_
  intro z el eB eD eC eS hfr hlo hcs X hret hQ
  subst el eB eD eC eS
  have X : tw_X z cX12_undo "TreasureWalkModel" 1 := X
  show tw_Rf z r _ σ 0 [(0, .ref (tw_zB z + 442))] []
  unfold tw_P_X12_undo
  refine r_aload_n X dX12_undo_0 rfl 0 rfl ?_
  refine r_iconst X dX12_undo_1 (v := (0 : Int32)) (by decide) ?_
  refine tw_s12_0 (k := 442) X dX12_undo_2 _ tw_w1252 tw_kc442 (fun σ1 => ?_)
  refine r_aload_n X dX12_undo_5 rfl 0 rfl ?_
  refine tw_g12_11 (k := 442) (v := .int (σ1 442 11)) X dX12_undo_6 _ tw_w1263 tw_kc442 rfl ?_
  refine r_if_ne X dX12_undo_9 (tgt := 14) (by decide) ?_ ?_
  ·
    refine r_aload_n X dX12_undo_14 rfl 0 rfl ?_
    refine r_dup X dX12_undo_15 rfl ?_
    refine tw_g12_11 (k := 442) (v := .int (σ1 442 11)) X dX12_undo_16 _ tw_w1263 tw_kc442 rfl ?_
    refine r_iconst X dX12_undo_19 (v := (1 : Int32)) (by decide) ?_
    refine r_isub X dX12_undo_20 ?_
    refine tw_s12_11 (k := 442) X dX12_undo_21 _ tw_w1263 tw_kc442 (fun σ2 => ?_)
    refine r_aload_n X dX12_undo_24 rfl 0 rfl ?_
    refine tw_g12_10 (k := 442) (v := .ref (tw_zB z + 446)) X dX12_undo_25 _ tw_w1262 tw_kc442 rfl ?_
    refine r_aload_n X dX12_undo_28 rfl 0 rfl ?_
    refine tw_g12_11 (k := 442) (v := .int (σ2 442 11)) X dX12_undo_29 _ tw_w1263 tw_kc442 rfl ?_
    refine r_aald (k := 446) (r := 446 + 1 + 1 * Int32.toNatClampNeg (σ2 442 11)) X dX12_undo_32 (tw_kd_lt tw_kc446 (by decide)) (tw_E17 tw_kc446) rfl rfl rfl (fun h3 => ?_)
    refine r_aload_n X dX12_undo_33 rfl 0 rfl ?_
    refine tw_g12_8 (k := 442) (v := .ref (tw_zB z + 444)) X dX12_undo_34 _ tw_w1260 tw_kc442 rfl ?_
    refine r_bd (fun r4 hr4 => ?_)
    refine tw_c_X12_copy X dX12_undo_37 _ tw_w1496 (tw_ke17 tw_kc446 (tw_ok_lt h3)) tw_kc444 hr4 (tw_le hfr rfl) (tw_le hlo rfl) hcs (Nat.le_of_ble_eq_true rfl) trivial ?_
    refine r_aload_n X dX12_undo_40 rfl 0 rfl ?_
    refine r_iconst X dX12_undo_41 (v := (0 : Int32)) (by decide) ?_
    refine tw_s12_22 (k := 442) X dX12_undo_42 _ tw_w1274 tw_kc442 (by decide) (fun σ5 => ?_)
    refine r_aload_n X dX12_undo_45 rfl 0 rfl ?_
    refine tw_g12_11 (k := 442) (v := .int (σ5 442 11)) X dX12_undo_46 _ tw_w1263 tw_kc442 rfl ?_
    exact r_iret X dX12_undo_49 hret hQ rfl
  ·
    refine r_iconst X dX12_undo_12 (v := (-1 : Int32)) (by decide) ?_
    exact r_iret X dX12_undo_13 hret hQ rfl
theorem tw_c_X12_undo {ρ : Type} {z : tw_Z} {cc : ByteArray} {own : String} {nL pc : Nat} {σ : tw_Sg} {L : List (Nat × Value)} {st : List Value} {ix : Nat} {n : Nat}  (X : tw_X z cc own nL) (d : decode cc pc = .ok (.invokevirtual ix, 3)) (i : Nat) (hi : lw_tbl[i]? = some (.methodLink own ix yX12_undo))  {res : ρ} {E : Option ρ} {r : Int32 × tw_Sg} (h : tw_P_X12_undo n σ = some r) (h1 : 2 ≤ (tw_zR z).frames) (h2 : 42 ≤ (tw_zR z).locals) (hcs : tw_zcells z ≤ (tw_zR z).cells ∧ tw_zslots z ≤ (tw_zR z).slots) (hst : (st.map fun v => v.category).sum ≤ 8) (_ : True) (kk : tw_Rf z res E r.2 (pc + 3) L (.int r.1 :: st)) : tw_Rf z res E σ pc L (.ref (tw_zB z + 442) :: st) := r_callV (As := []) X d (tw_m_X12_undo  h) tw_y_X12_undo tw_v_X12_undo i hi rfl (tw_kd_lt tw_kc442 (by decide)) (tw_E12 tw_kc442) rfl ⟨rfl, rfl, h1, h2⟩ hcs hst rfl kk
def tw_P_X12_checksum (n : Nat)  (σ : tw_Sg) : Option (Int64 × tw_Sg) :=
tw_lt (tw_up σ 442 0 (0 : Int32)) (fun (σ1 : tw_Sg) =>
tw_lt (0 : Int64) (fun (v2 : Int64) =>
tw_lt (0 : Int32) (fun (v3 : Int32) =>
tw_lp (fun (k5 : (Int64 × Int32 × tw_Sg) → Option (Int64 × tw_Sg)) (a4 : Int64 × Int32 × tw_Sg) =>
if (13 : Int32) ≤ a4.2.1 then (tw_lt (0 : Int32) (fun (v6 : Int32) =>
tw_lp (fun (k8 : (Int64 × Int32 × tw_Sg) → Option (Int64 × tw_Sg)) (a7 : Int64 × Int32 × tw_Sg) =>
tw_bd (tw_P_X12_cells a7.2.2) (fun r9 =>
if r9 ≤ a7.2.1 then (tw_lt (0 : Int32) (fun (v10 : Int32) =>
tw_lp (fun (k12 : (Int64 × Int32 × tw_Sg) → Option (Int64 × tw_Sg)) (a11 : Int64 × Int32 × tw_Sg) =>
tw_ck (tw_ok (3 : Int32) (tw_ln 444)) (
if (a11.2.2 444 (Int32.toNatClampNeg (3 : Int32))) ≤ a11.2.1 then (some (a11.1, a11.2.2))
else (tw_bd (tw_P_X12_clueAt a11.2.1 a11.2.2) (fun r13 =>
tw_ck (tw_ok (r13 + (0 : Int32)) (tw_ln 444)) (
tw_lt (((31 : Int64) * a11.1) + (Int32.toInt64 (a11.2.2 444 (Int32.toNatClampNeg (r13 + (0 : Int32)))))) (fun (v14 : Int64) =>
tw_lt (0 : Int32) (fun (v15 : Int32) =>
tw_lp (fun (k17 : (Int64 × Int32 × Int32 × tw_Sg) → Option (Int64 × tw_Sg)) (a16 : Int64 × Int32 × Int32 × tw_Sg) =>
tw_bd (tw_P_X12_legs a16.2.1 a16.2.2.2) (fun r18 =>
if r18 < a16.2.2.1 then (tw_lt (a16.2.1 + (1 : Int32)) (fun (v19 : Int32) =>
k12 (a16.1, v19, a16.2.2.2)))
else (tw_bd (tw_P_X12_reachedBy n a16.2.1 a16.2.2.1 a16.2.2.2) (fun r20 =>
tw_lt (((31 : Int64) * a16.1) + (Int32.toInt64 r20.1)) (fun (v21 : Int64) =>
tw_lt (a16.2.2.1 + (1 : Int32)) (fun (v22 : Int32) =>
k17 (v21, a16.2.1, v22, r20.2))))))) n (v14, a11.2.1, v15, a11.2.2)))))))) n (a7.1, v10, a7.2.2)))
else (tw_bd (tw_P_X12_toldCell n a7.2.1 a7.2.2) (fun r23 =>
tw_lt (((31 : Int64) * a7.1) + (Int32.toInt64 r23.1)) (fun (v24 : Int64) =>
tw_lt (a7.2.1 + (1 : Int32)) (fun (v25 : Int32) =>
k8 (v24, v25, r23.2))))))) n (a4.1, v6, a4.2.2)))
else (tw_bd (tw_P_X12_told n a4.2.1 a4.2.2) (fun r26 =>
tw_lt (((31 : Int64) * a4.1) + (Int32.toInt64 r26.1)) (fun (v27 : Int64) =>
tw_lt (a4.2.1 + (1 : Int32)) (fun (v28 : Int32) =>
k5 (v27, v28, r26.2)))))) n (v2, v3, σ1))))
theorem tw_y_X12_checksum : tw_My yX12_checksum cX12_checksum 5 (some .long) 0 := ⟨List.mem_of_getElem? tw_w1704, List.mem_of_getElem? tw_w101, by decide +kernel, by decide +kernel, by decide +kernel⟩
theorem tw_v_X12_checksum : tw_Mv yX12_checksum "TreasureWalkModel" := ⟨List.mem_of_getElem? tw_w1702, List.mem_of_getElem? tw_w1703, rfl⟩
set_option maxRecDepth 100000 in
set_option maxHeartbeats 4000000 in
theorem tw_m_X12_checksum {l : Launch} {B : Nat} {D : va_G} {C : Nat → ClassId} {S : Nat → Nat} {n : Nat}  {σ : tw_Sg}  {r : Int64 × tw_Sg} (h : tw_P_X12_checksum n σ = some r) : tw_Met l B D C S yX12_checksum cX12_checksum 5 (some .long) ({ frames := 11, cells := 0, slots := 0, locals := 262 } : Room) [.ref (B + 442)] σ (some (.long r.1)) r.2 := by
  refine tw_metOfP (tw_P_X12_checksum n σ) r h (fun r => (some (.long r.1), r.2)) (by decide +kernel) (Nat.le_of_ble_eq_true rfl) ⟨rfl, rfl⟩ ?_
  intro z el eB eD eC eS hfr hlo hcs X hret hQ
  subst el eB eD eC eS
  have X : tw_X z cX12_checksum "TreasureWalkModel" 5 := X
  show tw_Rf z r _ σ 0 [(0, .ref (tw_zB z + 442))] []
  unfold tw_P_X12_checksum
  refine r_aload_n X dX12_checksum_0 rfl 0 rfl ?_
  refine r_iconst X dX12_checksum_1 (v := (0 : Int32)) (by decide) ?_
  refine tw_s12_0 (k := 442) X dX12_checksum_2 _ tw_w1252 tw_kc442 (fun σ1 => ?_)
  refine r_lconst X dX12_checksum_5 (v := (0 : Int64)) (by decide) ?_
  refine r_lstore_n X dX12_checksum_6 rfl (by decide) (LL := fun v2 => [(1, .long v2), (0, .ref (tw_zB z + 442))]) (fun _ => rfl) (fun v2 => ?_)
  refine r_iconst X dX12_checksum_7 (v := (0 : Int32)) (by decide) ?_
  refine r_istore_n X dX12_checksum_8 rfl (by decide) (LL := fun v3 => [(3, .int v3), (1, .long v2), (0, .ref (tw_zB z + 442))]) (fun _ => rfl) (fun v3 => ?_)
  refine r_lp (α := Int64 × Int32 × tw_Sg) (σJ := fun a4 => a4.2.2) (pcJ := 9) (LJ := fun a4 => [(3, .int a4.2.1), (1, .long a4.1), (0, .ref (tw_zB z + 442))]) (stJ := fun a4 => []) (fun k5 hk5 a4 => ?_) n (v2, v3, σ1)
  refine r_iload_n X dX12_checksum_9 rfl 0 rfl ?_
  refine r_bipush X dX12_checksum_10 (v := (13 : Int32)) (by decide) ?_
  refine r_icmp_ge X dX12_checksum_12 (tgt := 34) (by decide) ?_ ?_
  ·
    refine r_iconst X dX12_checksum_34 (v := (0 : Int32)) (by decide) ?_
    refine r_istore_n X dX12_checksum_35 rfl (by decide) (LL := fun v6 => [(3, .int v6), (1, .long a4.1), (0, .ref (tw_zB z + 442))]) (fun _ => rfl) (fun v6 => ?_)
    refine r_lp (α := Int64 × Int32 × tw_Sg) (σJ := fun a7 => a7.2.2) (pcJ := 36) (LJ := fun a7 => [(3, .int a7.2.1), (1, .long a7.1), (0, .ref (tw_zB z + 442))]) (stJ := fun a7 => []) (fun k8 hk8 a7 => ?_) n (a4.1, v6, a4.2.2)
    refine r_iload_n X dX12_checksum_36 rfl 0 rfl ?_
    refine r_aload_n X dX12_checksum_37 rfl 2 rfl ?_
    refine r_bd (fun r9 hr9 => ?_)
    refine tw_c_X12_cells X dX12_checksum_38 _ tw_w1523  hr9 (tw_le hfr rfl) (tw_le hlo rfl) hcs (Nat.le_of_ble_eq_true rfl) trivial ?_
    refine r_icmp_ge X dX12_checksum_41 (tgt := 63) (by decide) ?_ ?_
    ·
      refine r_iconst X dX12_checksum_63 (v := (0 : Int32)) (by decide) ?_
      refine r_istore_n X dX12_checksum_64 rfl (by decide) (LL := fun v10 => [(3, .int v10), (1, .long a7.1), (0, .ref (tw_zB z + 442))]) (fun _ => rfl) (fun v10 => ?_)
      refine r_lp (α := Int64 × Int32 × tw_Sg) (σJ := fun a11 => a11.2.2) (pcJ := 65) (LJ := fun a11 => [(3, .int a11.2.1), (1, .long a11.1), (0, .ref (tw_zB z + 442))]) (stJ := fun a11 => []) (fun k12 hk12 a11 => ?_) n (a7.1, v10, a7.2.2)
      refine r_iload_n X dX12_checksum_65 rfl 0 rfl ?_
      refine r_aload_n X dX12_checksum_66 rfl 2 rfl ?_
      refine tw_g12_8 (k := 442) (v := .ref (tw_zB z + 444)) X dX12_checksum_67 _ tw_w1260 tw_kc442 rfl ?_
      refine r_iconst X dX12_checksum_70 (v := (3 : Int32)) (by decide) ?_
      refine r_iald (k := 444) X dX12_checksum_71 tw_kc444 ?_
      refine r_icmp_ge X dX12_checksum_72 (tgt := 134) (by decide) ?_ ?_
      ·
        refine r_lload_n X dX12_checksum_134 rfl 1 rfl ?_
        exact r_lret X dX12_checksum_135 hret hQ rfl
      ·
        refine r_ldc2 X dX12_checksum_75 (v := (31 : Int64)) _ tw_w1705 ?_
        refine r_lload_n X dX12_checksum_78 rfl 1 rfl ?_
        refine r_lmul X dX12_checksum_79 ?_
        refine r_aload_n X dX12_checksum_80 rfl 2 rfl ?_
        refine tw_g12_8 (k := 442) (v := .ref (tw_zB z + 444)) X dX12_checksum_81 _ tw_w1260 tw_kc442 rfl ?_
        refine r_iload_n X dX12_checksum_84 rfl 0 rfl ?_
        refine r_bd (fun r13 hr13 => ?_)
        refine tw_c_X12_clueAt X dX12_checksum_85 _ tw_w1460  hr13 (tw_le hfr rfl) (tw_le hlo rfl) hcs (Nat.le_of_ble_eq_true rfl) trivial ?_
        refine r_iconst X dX12_checksum_88 (v := (0 : Int32)) (by decide) ?_
        refine r_iadd X dX12_checksum_89 ?_
        refine r_iald (k := 444) X dX12_checksum_90 tw_kc444 ?_
        refine r_i2l X dX12_checksum_91 ?_
        refine r_ladd X dX12_checksum_92 ?_
        refine r_lstore_n X dX12_checksum_93 rfl (by decide) (LL := fun v14 => [(1, .long v14), (3, .int a11.2.1), (0, .ref (tw_zB z + 442))]) (fun _ => rfl) (fun v14 => ?_)
        refine r_iconst X dX12_checksum_94 (v := (0 : Int32)) (by decide) ?_
        refine r_istore X dX12_checksum_95 (by decide) (LL := fun v15 => [(4, .int v15), (1, .long v14), (3, .int a11.2.1), (0, .ref (tw_zB z + 442))]) (fun _ => rfl) (fun v15 => ?_)
        refine r_lp (α := Int64 × Int32 × Int32 × tw_Sg) (σJ := fun a16 => a16.2.2.2) (pcJ := 97) (LJ := fun a16 => [(4, .int a16.2.2.1), (1, .long a16.1), (3, .int a16.2.1), (0, .ref (tw_zB z + 442))]) (stJ := fun a16 => []) (fun k17 hk17 a16 => ?_) n (v14, a11.2.1, v15, a11.2.2)
        refine r_iload X dX12_checksum_97 0 rfl ?_
        refine r_aload_n X dX12_checksum_99 rfl 3 rfl ?_
        refine r_iload_n X dX12_checksum_100 rfl 2 rfl ?_
        refine r_bd (fun r18 hr18 => ?_)
        refine tw_c_X12_legs X dX12_checksum_101 _ tw_w1543  hr18 (tw_le hfr rfl) (tw_le hlo rfl) hcs (Nat.le_of_ble_eq_true rfl) trivial ?_
        refine r_icmp_gt X dX12_checksum_104 (tgt := 128) (by decide) ?_ ?_
        ·
          refine r_iinc X dX12_checksum_128 2 rfl (v := (1 : Int32)) (by decide) (by decide) (LL := fun v19 => [(3, .int v19), (4, .int a16.2.2.1), (1, .long a16.1), (0, .ref (tw_zB z + 442))]) (fun _ => rfl) (fun v19 => ?_)
          refine r_goto X dX12_checksum_131 (tgt := 65) (by decide) ?_
          exact tw_Rf.sub [0, 2, 3] rfl (hk12 (a16.1, v19, a16.2.2.2))
        ·
          refine r_ldc2 X dX12_checksum_107 (v := (31 : Int64)) _ tw_w1705 ?_
          refine r_lload_n X dX12_checksum_110 rfl 1 rfl ?_
          refine r_lmul X dX12_checksum_111 ?_
          refine r_aload_n X dX12_checksum_112 rfl 3 rfl ?_
          refine r_iload_n X dX12_checksum_113 rfl 2 rfl ?_
          refine r_iload X dX12_checksum_114 0 rfl ?_
          refine r_bd (fun r20 hr20 => ?_)
          refine tw_c_X12_reachedBy X dX12_checksum_116 _ tw_w1616  hr20 (tw_le hfr rfl) (tw_le hlo rfl) hcs (Nat.le_of_ble_eq_true rfl) trivial ?_
          refine r_i2l X dX12_checksum_119 ?_
          refine r_ladd X dX12_checksum_120 ?_
          refine r_lstore_n X dX12_checksum_121 rfl (by decide) (LL := fun v21 => [(1, .long v21), (4, .int a16.2.2.1), (3, .int a16.2.1), (0, .ref (tw_zB z + 442))]) (fun _ => rfl) (fun v21 => ?_)
          refine r_iinc X dX12_checksum_122 1 rfl (v := (1 : Int32)) (by decide) (by decide) (LL := fun v22 => [(4, .int v22), (1, .long v21), (3, .int a16.2.1), (0, .ref (tw_zB z + 442))]) (fun _ => rfl) (fun v22 => ?_)
          refine r_goto X dX12_checksum_125 (tgt := 97) (by decide) ?_
          exact hk17 (v21, a16.2.1, v22, r20.2)
    ·
      refine r_ldc2 X dX12_checksum_44 (v := (31 : Int64)) _ tw_w1705 ?_
      refine r_lload_n X dX12_checksum_47 rfl 1 rfl ?_
      refine r_lmul X dX12_checksum_48 ?_
      refine r_aload_n X dX12_checksum_49 rfl 2 rfl ?_
      refine r_iload_n X dX12_checksum_50 rfl 0 rfl ?_
      refine r_bd (fun r23 hr23 => ?_)
      refine tw_c_X12_toldCell X dX12_checksum_51 _ tw_w1600  hr23 (tw_le hfr rfl) (tw_le hlo rfl) hcs (Nat.le_of_ble_eq_true rfl) trivial ?_
      refine r_i2l X dX12_checksum_54 ?_
      refine r_ladd X dX12_checksum_55 ?_
      refine r_lstore_n X dX12_checksum_56 rfl (by decide) (LL := fun v24 => [(1, .long v24), (3, .int a7.2.1), (0, .ref (tw_zB z + 442))]) (fun _ => rfl) (fun v24 => ?_)
      refine r_iinc X dX12_checksum_57 1 rfl (v := (1 : Int32)) (by decide) (by decide) (LL := fun v25 => [(3, .int v25), (1, .long v24), (0, .ref (tw_zB z + 442))]) (fun _ => rfl) (fun v25 => ?_)
      refine r_goto X dX12_checksum_60 (tgt := 36) (by decide) ?_
      exact hk8 (v24, v25, r23.2)
  ·
    refine r_ldc2 X dX12_checksum_15 (v := (31 : Int64)) _ tw_w1705 ?_
    refine r_lload_n X dX12_checksum_18 rfl 1 rfl ?_
    refine r_lmul X dX12_checksum_19 ?_
    refine r_aload_n X dX12_checksum_20 rfl 2 rfl ?_
    refine r_iload_n X dX12_checksum_21 rfl 0 rfl ?_
    refine r_bd (fun r26 hr26 => ?_)
    refine tw_c_X12_told X dX12_checksum_22 _ tw_w1507  hr26 (tw_le hfr rfl) (tw_le hlo rfl) hcs (Nat.le_of_ble_eq_true rfl) trivial ?_
    refine r_i2l X dX12_checksum_25 ?_
    refine r_ladd X dX12_checksum_26 ?_
    refine r_lstore_n X dX12_checksum_27 rfl (by decide) (LL := fun v27 => [(1, .long v27), (3, .int a4.2.1), (0, .ref (tw_zB z + 442))]) (fun _ => rfl) (fun v27 => ?_)
    refine r_iinc X dX12_checksum_28 1 rfl (v := (1 : Int32)) (by decide) (by decide) (LL := fun v28 => [(3, .int v28), (1, .long v27), (0, .ref (tw_zB z + 442))]) (fun _ => rfl) (fun v28 => ?_)
    refine r_goto X dX12_checksum_31 (tgt := 9) (by decide) ?_
    exact hk5 (v27, v28, r26.2)
theorem tw_c_X12_checksum {ρ : Type} {z : tw_Z} {cc : ByteArray} {own : String} {nL pc : Nat} {σ : tw_Sg} {L : List (Nat × Value)} {st : List Value} {ix : Nat} {n : Nat}  (X : tw_X z cc own nL) (d : decode cc pc = .ok (.invokevirtual ix, 3)) (i : Nat) (hi : lw_tbl[i]? = some (.methodLink own ix yX12_checksum))  {res : ρ} {E : Option ρ} {r : Int64 × tw_Sg} (h : tw_P_X12_checksum n σ = some r) (h1 : 12 ≤ (tw_zR z).frames) (h2 : 286 ≤ (tw_zR z).locals) (hcs : tw_zcells z ≤ (tw_zR z).cells ∧ tw_zslots z ≤ (tw_zR z).slots) (hst : (st.map fun v => v.category).sum ≤ 8) (_ : True) (kk : tw_Rf z res E r.2 (pc + 3) L (.long r.1 :: st)) : tw_Rf z res E σ pc L (.ref (tw_zB z + 442) :: st) := r_callV (As := []) X d (tw_m_X12_checksum  h) tw_y_X12_checksum tw_v_X12_checksum i hi rfl (tw_kd_lt tw_kc442 (by decide)) (tw_E12 tw_kc442) rfl ⟨rfl, rfl, h1, h2⟩ hcs hst rfl kk
