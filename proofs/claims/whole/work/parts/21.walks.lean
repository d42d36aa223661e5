def tw_P_X12_lay (n : Nat)  (σ : tw_Sg) : Option (tw_Sg) :=
if (σ 442 22) = 0 then (tw_lt (tw_up σ 442 22 (1 : Int32)) (fun (σ1 : tw_Sg) =>
tw_lt (0 : Int32) (fun (v2 : Int32) =>
tw_lp (fun (k4 : (Int32 × tw_Sg) → Option (tw_Sg)) (a3 : Int32 × tw_Sg) =>
tw_ck (tw_ok (3 : Int32) (tw_ln 444)) (
if (a3.2 444 (Int32.toNatClampNeg (3 : Int32))) ≤ a3.1 then (some a3.2)
else (tw_lt (0 : Int32) (fun (v5 : Int32) =>
tw_lp (fun (k7 : (Int32 × Int32 × tw_Sg) → Option (tw_Sg)) (a6 : Int32 × Int32 × tw_Sg) =>
tw_bd (tw_P_X12_legs a6.1 a6.2.2) (fun r8 =>
if r8 < a6.2.1 then (tw_lt (0 : Int32) (fun (v9 : Int32) =>
tw_lp (fun (k11 : (Int32 × Int32 × tw_Sg) → Option (tw_Sg)) (a10 : Int32 × Int32 × tw_Sg) =>
tw_bd (tw_P_X12_clueAt a10.1 a10.2.2) (fun r12 =>
tw_ck (tw_ok (r12 + (1 : Int32)) (tw_ln 444)) (
if (a10.2.2 444 (Int32.toNatClampNeg (r12 + (1 : Int32)))) ≤ a10.2.1 then (tw_lt (0 : Int32) (fun (v13 : Int32) =>
tw_lp (fun (k15 : (Int32 × Int32 × tw_Sg) → Option (tw_Sg)) (a14 : Int32 × Int32 × tw_Sg) =>
tw_bd (tw_P_X12_legs a14.1 a14.2.2) (fun r16 =>
if r16 ≤ a14.2.1 then (tw_lt (a14.1 + (1 : Int32)) (fun (v17 : Int32) =>
k4 (v17, a14.2.2)))
else (tw_bd (tw_P_X12_layLeg n a14.1 a14.2.1 a14.2.2) (fun r18 =>
tw_lt (a14.2.1 + (1 : Int32)) (fun (v19 : Int32) =>
k15 (a14.1, v19, r18)))))) n (a10.1, v13, a10.2.2)))
else (tw_ck (tw_ok a10.1 (tw_ln 457)) (
tw_ck (tw_ok (0 : Int32) (tw_ln (457 + 1 + 10 * Int32.toNatClampNeg a10.1))) (
tw_bd (tw_P_X12_startOf a10.1 a10.2.1 a10.2.2) (fun r22 =>
tw_ck (tw_ok r22 (tw_ln ((457 + 1 + 10 * Int32.toNatClampNeg a10.1) + 1 + 1 * Int32.toNatClampNeg (0 : Int32)))) (tw_lt (tw_up a10.2.2 ((457 + 1 + 10 * Int32.toNatClampNeg a10.1) + 1 + 1 * Int32.toNatClampNeg (0 : Int32)) (Int32.toNatClampNeg r22) (vp_nar .boolean (1 : Int32))) (fun (σ23 : tw_Sg) =>
tw_lt (a10.2.1 + (1 : Int32)) (fun (v24 : Int32) =>
k11 (a10.1, v24, σ23))))))))))) n (a6.1, v9, a6.2.2)))
else (tw_lt (0 : Int32) (fun (v25 : Int32) =>
tw_lp (fun (k27 : (Int32 × Int32 × Int32 × tw_Sg) → Option (tw_Sg)) (a26 : Int32 × Int32 × Int32 × tw_Sg) =>
tw_bd (tw_P_X12_cells a26.2.2.2) (fun r28 =>
if r28 ≤ a26.2.2.1 then (tw_lt (a26.2.1 + (1 : Int32)) (fun (v29 : Int32) =>
k7 (a26.1, v29, a26.2.2.2)))
else (tw_ck (tw_ok a26.1 (tw_ln 457)) (
tw_ck (tw_ok a26.2.1 (tw_ln (457 + 1 + 10 * Int32.toNatClampNeg a26.1))) (
tw_ck (tw_ok a26.2.2.1 (tw_ln ((457 + 1 + 10 * Int32.toNatClampNeg a26.1) + 1 + 1 * Int32.toNatClampNeg a26.2.1))) (tw_lt (tw_up a26.2.2.2 ((457 + 1 + 10 * Int32.toNatClampNeg a26.1) + 1 + 1 * Int32.toNatClampNeg a26.2.1) (Int32.toNatClampNeg a26.2.2.1) (vp_nar .boolean (0 : Int32))) (fun (σ32 : tw_Sg) =>
tw_lt (a26.2.2.1 + (1 : Int32)) (fun (v33 : Int32) =>
k27 (a26.1, a26.2.1, v33, σ32))))))))) n (a6.1, a6.2.1, v25, a6.2.2))))) n (a3.1, v5, a3.2))))) n (v2, σ1))))
else (some σ)
theorem tw_y_X12_lay : tw_My yX12_lay cX12_lay 4 none 0 := ⟨List.mem_of_getElem? tw_w1542, List.mem_of_getElem? tw_w101, by decide +kernel, by decide +kernel, by decide +kernel⟩
theorem tw_v_X12_lay : tw_Mv yX12_lay "TreasureWalkModel" := ⟨List.mem_of_getElem? tw_w1541, List.mem_of_getElem? tw_w68, rfl⟩
set_option maxRecDepth 100000 in
set_option maxHeartbeats 4000000 in
theorem tw_m_X12_lay {l : Launch} {B : Nat} {D : va_G} {C : Nat → ClassId} {S : Nat → Nat} {n : Nat}  {σ : tw_Sg}  {r : tw_Sg} (h : tw_P_X12_lay n σ = some r) : tw_Met l B D C S yX12_lay cX12_lay 4 none ({ frames := 5, cells := 0, slots := 0, locals := 128 } : Room) [.ref (B + 442)] σ (none) r := by
  refine tw_metOfP (tw_P_X12_lay n σ) r h (fun r => (none, r)) (by decide +kernel) (Nat.le_of_ble_eq_true rfl) ⟨rfl, rfl⟩ ?_
  intro z el eB eD eC eS hfr hlo hcs X hret hQ
  subst el eB eD eC eS
  have X : tw_X z cX12_lay "TreasureWalkModel" 4 := X
  show tw_Rf z r _ σ 0 [(0, .ref (tw_zB z + 442))] []
  unfold tw_P_X12_lay
  refine r_aload_n X dX12_lay_0 rfl 0 rfl ?_
  refine tw_g12_22 (k := 442) (v := .int (σ 442 22)) X dX12_lay_1 _ tw_w1274 tw_kc442 rfl ?_
  refine r_if_eq X dX12_lay_4 (tgt := 8) (by decide) ?_ ?_
  ·
    refine r_aload_n X dX12_lay_8 rfl 0 rfl ?_
    refine r_iconst X dX12_lay_9 (v := (1 : Int32)) (by decide) ?_
    refine tw_s12_22 (k := 442) X dX12_lay_10 _ tw_w1274 tw_kc442 (by decide) (fun σ1 => ?_)
    refine r_iconst X dX12_lay_13 (v := (0 : Int32)) (by decide) ?_
    refine r_istore_n X dX12_lay_14 rfl (by decide) (LL := fun v2 => [(1, .int v2), (0, .ref (tw_zB z + 442))]) (fun _ => rfl) (fun v2 => ?_)
    refine r_lp (α := Int32 × tw_Sg) (σJ := fun a3 => a3.2) (pcJ := 15) (LJ := fun a3 => [(1, .int a3.1), (0, .ref (tw_zB z + 442))]) (stJ := fun a3 => []) (fun k4 hk4 a3 => ?_) n (v2, σ1)
    refine r_iload_n X dX12_lay_15 rfl 0 rfl ?_
    refine r_aload_n X dX12_lay_16 rfl 1 rfl ?_
    refine tw_g12_8 (k := 442) (v := .ref (tw_zB z + 444)) X dX12_lay_17 _ tw_w1260 tw_kc442 rfl ?_
    refine r_iconst X dX12_lay_20 (v := (3 : Int32)) (by decide) ?_
    refine r_iald (k := 444) X dX12_lay_21 tw_kc444 ?_
    refine r_icmp_ge X dX12_lay_22 (tgt := 137) (by decide) ?_ ?_
    ·
      exact r_vret X dX12_lay_137 hret hQ rfl
    ·
      refine r_iconst X dX12_lay_25 (v := (0 : Int32)) (by decide) ?_
      refine r_istore_n X dX12_lay_26 rfl (by decide) (LL := fun v5 => [(2, .int v5), (1, .int a3.1), (0, .ref (tw_zB z + 442))]) (fun _ => rfl) (fun v5 => ?_)
      refine r_lp (α := Int32 × Int32 × tw_Sg) (σJ := fun a6 => a6.2.2) (pcJ := 27) (LJ := fun a6 => [(2, .int a6.2.1), (1, .int a6.1), (0, .ref (tw_zB z + 442))]) (stJ := fun a6 => []) (fun k7 hk7 a6 => ?_) n (a3.1, v5, a3.2)
      refine r_iload_n X dX12_lay_27 rfl 0 rfl ?_
      refine r_aload_n X dX12_lay_28 rfl 2 rfl ?_
      refine r_iload_n X dX12_lay_29 rfl 1 rfl ?_
      refine r_bd (fun r8 hr8 => ?_)
      refine tw_c_X12_legs X dX12_lay_30 _ tw_w1543  hr8 (tw_le hfr rfl) (tw_le hlo rfl) hcs (Nat.le_of_ble_eq_true rfl) trivial ?_
      refine r_icmp_gt X dX12_lay_33 (tgt := 69) (by decide) ?_ ?_
      ·
        refine r_iconst X dX12_lay_69 (v := (0 : Int32)) (by decide) ?_
        refine r_istore_n X dX12_lay_70 rfl (by decide) (LL := fun v9 => [(2, .int v9), (1, .int a6.1), (0, .ref (tw_zB z + 442))]) (fun _ => rfl) (fun v9 => ?_)
        refine r_lp (α := Int32 × Int32 × tw_Sg) (σJ := fun a10 => a10.2.2) (pcJ := 71) (LJ := fun a10 => [(2, .int a10.2.1), (1, .int a10.1), (0, .ref (tw_zB z + 442))]) (stJ := fun a10 => []) (fun k11 hk11 a10 => ?_) n (a6.1, v9, a6.2.2)
        refine r_iload_n X dX12_lay_71 rfl 0 rfl ?_
        refine r_aload_n X dX12_lay_72 rfl 2 rfl ?_
        refine tw_g12_8 (k := 442) (v := .ref (tw_zB z + 444)) X dX12_lay_73 _ tw_w1260 tw_kc442 rfl ?_
        refine r_iload_n X dX12_lay_76 rfl 1 rfl ?_
        refine r_bd (fun r12 hr12 => ?_)
        refine tw_c_X12_clueAt X dX12_lay_77 _ tw_w1460  hr12 (tw_le hfr rfl) (tw_le hlo rfl) hcs (Nat.le_of_ble_eq_true rfl) trivial ?_
        refine r_iconst X dX12_lay_80 (v := (1 : Int32)) (by decide) ?_
        refine r_iadd X dX12_lay_81 ?_
        refine r_iald (k := 444) X dX12_lay_82 tw_kc444 ?_
        refine r_icmp_ge X dX12_lay_83 (tgt := 108) (by decide) ?_ ?_
        ·
          refine r_iconst X dX12_lay_108 (v := (0 : Int32)) (by decide) ?_
          refine r_istore_n X dX12_lay_109 rfl (by decide) (LL := fun v13 => [(2, .int v13), (1, .int a10.1), (0, .ref (tw_zB z + 442))]) (fun _ => rfl) (fun v13 => ?_)
          refine r_lp (α := Int32 × Int32 × tw_Sg) (σJ := fun a14 => a14.2.2) (pcJ := 110) (LJ := fun a14 => [(2, .int a14.2.1), (1, .int a14.1), (0, .ref (tw_zB z + 442))]) (stJ := fun a14 => []) (fun k15 hk15 a14 => ?_) n (a10.1, v13, a10.2.2)
          refine r_iload_n X dX12_lay_110 rfl 0 rfl ?_
          refine r_aload_n X dX12_lay_111 rfl 2 rfl ?_
          refine r_iload_n X dX12_lay_112 rfl 1 rfl ?_
          refine r_bd (fun r16 hr16 => ?_)
          refine tw_c_X12_legs X dX12_lay_113 _ tw_w1543  hr16 (tw_le hfr rfl) (tw_le hlo rfl) hcs (Nat.le_of_ble_eq_true rfl) trivial ?_
          refine r_icmp_ge X dX12_lay_116 (tgt := 131) (by decide) ?_ ?_
          ·
            refine r_iinc X dX12_lay_131 1 rfl (v := (1 : Int32)) (by decide) (by decide) (LL := fun v17 => [(1, .int v17), (2, .int a14.2.1), (0, .ref (tw_zB z + 442))]) (fun _ => rfl) (fun v17 => ?_)
            refine r_goto X dX12_lay_134 (tgt := 15) (by decide) ?_
            exact tw_Rf.sub [0, 2] rfl (hk4 (v17, a14.2.2))
          ·
            refine r_aload_n X dX12_lay_119 rfl 2 rfl ?_
            refine r_iload_n X dX12_lay_120 rfl 1 rfl ?_
            refine r_iload_n X dX12_lay_121 rfl 0 rfl ?_
            refine r_bd (fun r18 hr18 => ?_)
            refine tw_c_X12_layLeg X dX12_lay_122 _ tw_w1551  hr18 (tw_le hfr rfl) (tw_le hlo rfl) hcs (Nat.le_of_ble_eq_true rfl) trivial ?_
            refine r_iinc X dX12_lay_125 0 rfl (v := (1 : Int32)) (by decide) (by decide) (LL := fun v19 => [(2, .int v19), (1, .int a14.1), (0, .ref (tw_zB z + 442))]) (fun _ => rfl) (fun v19 => ?_)
            refine r_goto X dX12_lay_128 (tgt := 110) (by decide) ?_
            exact hk15 (a14.1, v19, r18)
        ·
          refine r_aload_n X dX12_lay_86 rfl 2 rfl ?_
          refine tw_g12_21 (k := 442) (v := .ref (tw_zB z + 457)) X dX12_lay_87 _ tw_w1273 tw_kc442 rfl ?_
          refine r_iload_n X dX12_lay_90 rfl 1 rfl ?_
          refine r_aald (k := 457) (r := 457 + 1 + 10 * Int32.toNatClampNeg a10.1) X dX12_lay_91 (tw_kd_lt tw_kc457 (by decide)) (tw_E19 tw_kc457) rfl rfl rfl (fun h20 => ?_)
          refine r_iconst X dX12_lay_92 (v := (0 : Int32)) (by decide) ?_
          refine r_aald (k := (457 + 1 + 10 * Int32.toNatClampNeg a10.1)) (r := (457 + 1 + 10 * Int32.toNatClampNeg a10.1) + 1 + 1 * Int32.toNatClampNeg (0 : Int32)) X dX12_lay_93 (tw_kd_lt (tw_ke19 tw_kc457 (tw_ok_lt h20)) (by decide)) (tw_E18 (tw_ke19 tw_kc457 (tw_ok_lt h20))) rfl rfl rfl (fun h21 => ?_)
          refine r_aload_n X dX12_lay_94 rfl 2 rfl ?_
          refine r_iload_n X dX12_lay_95 rfl 1 rfl ?_
          refine r_iload_n X dX12_lay_96 rfl 0 rfl ?_
          refine r_bd (fun r22 hr22 => ?_)
          refine tw_c_X12_startOf X dX12_lay_97 _ tw_w1547  hr22 (tw_le hfr rfl) (tw_le hlo rfl) hcs (Nat.le_of_ble_eq_true rfl) trivial ?_
          refine r_iconst X dX12_lay_100 (v := (1 : Int32)) (by decide) ?_
          refine r_zast (k := ((457 + 1 + 10 * Int32.toNatClampNeg a10.1) + 1 + 1 * Int32.toNatClampNeg (0 : Int32))) X dX12_lay_101 (tw_ke18 (tw_ke19 tw_kc457 (tw_ok_lt h20)) (tw_ok_lt h21)) (fun σ23 => ?_)
          refine r_iinc X dX12_lay_102 0 rfl (v := (1 : Int32)) (by decide) (by decide) (LL := fun v24 => [(2, .int v24), (1, .int a10.1), (0, .ref (tw_zB z + 442))]) (fun _ => rfl) (fun v24 => ?_)
          refine r_goto X dX12_lay_105 (tgt := 71) (by decide) ?_
          exact hk11 (a10.1, v24, σ23)
      ·
        refine r_iconst X dX12_lay_36 (v := (0 : Int32)) (by decide) ?_
        refine r_istore_n X dX12_lay_37 rfl (by decide) (LL := fun v25 => [(3, .int v25), (2, .int a6.2.1), (1, .int a6.1), (0, .ref (tw_zB z + 442))]) (fun _ => rfl) (fun v25 => ?_)
        refine r_lp (α := Int32 × Int32 × Int32 × tw_Sg) (σJ := fun a26 => a26.2.2.2) (pcJ := 38) (LJ := fun a26 => [(3, .int a26.2.2.1), (2, .int a26.2.1), (1, .int a26.1), (0, .ref (tw_zB z + 442))]) (stJ := fun a26 => []) (fun k27 hk27 a26 => ?_) n (a6.1, a6.2.1, v25, a6.2.2)
        refine r_iload_n X dX12_lay_38 rfl 0 rfl ?_
        refine r_aload_n X dX12_lay_39 rfl 3 rfl ?_
        refine r_bd (fun r28 hr28 => ?_)
        refine tw_c_X12_cells X dX12_lay_40 _ tw_w1523  hr28 (tw_le hfr rfl) (tw_le hlo rfl) hcs (Nat.le_of_ble_eq_true rfl) trivial ?_
        refine r_icmp_ge X dX12_lay_43 (tgt := 63) (by decide) ?_ ?_
        ·
          refine r_iinc X dX12_lay_63 1 rfl (v := (1 : Int32)) (by decide) (by decide) (LL := fun v29 => [(2, .int v29), (3, .int a26.2.2.1), (1, .int a26.1), (0, .ref (tw_zB z + 442))]) (fun _ => rfl) (fun v29 => ?_)
          refine r_goto X dX12_lay_66 (tgt := 27) (by decide) ?_
          exact tw_Rf.sub [0, 2, 3] rfl (hk7 (a26.1, v29, a26.2.2.2))
        ·
          refine r_aload_n X dX12_lay_46 rfl 3 rfl ?_
          refine tw_g12_21 (k := 442) (v := .ref (tw_zB z + 457)) X dX12_lay_47 _ tw_w1273 tw_kc442 rfl ?_
          refine r_iload_n X dX12_lay_50 rfl 2 rfl ?_
          refine r_aald (k := 457) (r := 457 + 1 + 10 * Int32.toNatClampNeg a26.1) X dX12_lay_51 (tw_kd_lt tw_kc457 (by decide)) (tw_E19 tw_kc457) rfl rfl rfl (fun h30 => ?_)
          refine r_iload_n X dX12_lay_52 rfl 1 rfl ?_
          refine r_aald (k := (457 + 1 + 10 * Int32.toNatClampNeg a26.1)) (r := (457 + 1 + 10 * Int32.toNatClampNeg a26.1) + 1 + 1 * Int32.toNatClampNeg a26.2.1) X dX12_lay_53 (tw_kd_lt (tw_ke19 tw_kc457 (tw_ok_lt h30)) (by decide)) (tw_E18 (tw_ke19 tw_kc457 (tw_ok_lt h30))) rfl rfl rfl (fun h31 => ?_)
          refine r_iload_n X dX12_lay_54 rfl 0 rfl ?_
          refine r_iconst X dX12_lay_55 (v := (0 : Int32)) (by decide) ?_
          refine r_zast (k := ((457 + 1 + 10 * Int32.toNatClampNeg a26.1) + 1 + 1 * Int32.toNatClampNeg a26.2.1)) X dX12_lay_56 (tw_ke18 (tw_ke19 tw_kc457 (tw_ok_lt h30)) (tw_ok_lt h31)) (fun σ32 => ?_)
          refine r_iinc X dX12_lay_57 0 rfl (v := (1 : Int32)) (by decide) (by decide) (LL := fun v33 => [(3, .int v33), (2, .int a26.2.1), (1, .int a26.1), (0, .ref (tw_zB z + 442))]) (fun _ => rfl) (fun v33 => ?_)
          refine r_goto X dX12_lay_60 (tgt := 38) (by decide) ?_
          exact hk27 (a26.1, a26.2.1, v33, σ32)
  ·
    exact r_vret X dX12_lay_7 hret hQ rfl
theorem tw_c_X12_lay {ρ : Type} {z : tw_Z} {cc : ByteArray} {own : String} {nL pc : Nat} {σ : tw_Sg} {L : List (Nat × Value)} {st : List Value} {ix : Nat} {n : Nat}  (X : tw_X z cc own nL) (d : decode cc pc = .ok (.invokevirtual ix, 3)) (i : Nat) (hi : lw_tbl[i]? = some (.methodLink own ix yX12_lay))  {res : ρ} {E : Option ρ} {r : tw_Sg} (h : tw_P_X12_lay n σ = some r) (h1 : 6 ≤ (tw_zR z).frames) (h2 : 151 ≤ (tw_zR z).locals) (hcs : tw_zcells z ≤ (tw_zR z).cells ∧ tw_zslots z ≤ (tw_zR z).slots) (hst : (st.map fun v => v.category).sum ≤ 8) (_ : True) (kk : tw_Rf z res E r (pc + 3) L (st)) : tw_Rf z res E σ pc L (.ref (tw_zB z + 442) :: st) := r_callV (As := []) X d (tw_m_X12_lay  h) tw_y_X12_lay tw_v_X12_lay i hi rfl (tw_kd_lt tw_kc442 (by decide)) (tw_E12 tw_kc442) rfl ⟨rfl, rfl, h1, h2⟩ hcs hst rfl kk
def tw_P_X12_isInRegion (x0 : Int32) (x1 : Int32) (σ : tw_Sg) : Option (Int32) :=
tw_ck (tw_ok x0 (tw_ln 457)) (
tw_bd (tw_P_X12_legs x0 σ) (fun r2 =>
tw_ck (tw_ok r2 (tw_ln (457 + 1 + 10 * Int32.toNatClampNeg x0))) (
tw_ck (tw_ok x1 (tw_ln ((457 + 1 + 10 * Int32.toNatClampNeg x0) + 1 + 1 * Int32.toNatClampNeg r2))) (
tw_ck (tw_01 (σ ((457 + 1 + 10 * Int32.toNatClampNeg x0) + 1 + 1 * Int32.toNatClampNeg r2) (Int32.toNatClampNeg x1))) (some (σ ((457 + 1 + 10 * Int32.toNatClampNeg x0) + 1 + 1 * Int32.toNatClampNeg r2) (Int32.toNatClampNeg x1)))))))
theorem tw_y_X12_isInRegion : tw_My yX12_isInRegion cX12_isInRegion 3 (some .boolean) 2 := ⟨List.mem_of_getElem? tw_w1583, List.mem_of_getElem? tw_w101, by decide +kernel, by decide +kernel, by decide +kernel⟩
theorem tw_v_X12_isInRegion : tw_Mv yX12_isInRegion "TreasureWalkModel" := ⟨List.mem_of_getElem? tw_w1582, List.mem_of_getElem? tw_w76, rfl⟩
set_option maxRecDepth 100000 in
set_option maxHeartbeats 4000000 in
theorem tw_m_X12_isInRegion {l : Launch} {B : Nat} {D : va_G} {C : Nat → ClassId} {S : Nat → Nat} {x0 : Int32} {x1 : Int32} {σ : tw_Sg}  {r : Int32} (h : tw_P_X12_isInRegion x0 x1 σ = some r) : tw_Met l B D C S yX12_isInRegion cX12_isInRegion 3 (some .boolean) ({ frames := 2, cells := 0, slots := 0, locals := 41 } : Room) [.ref (B + 442), .int x0, .int x1] σ (some (.int r)) σ := by
  refine tw_metOfP (tw_P_X12_isInRegion x0 x1 σ) r h (fun r => (some (.int r), σ)) (by decide +kernel) (Nat.le_of_ble_eq_true rfl) ⟨rfl, rfl⟩ ?_
  intro z el eB eD eC eS hfr hlo hcs X hret hQ
  subst el eB eD eC eS
  have X : tw_X z cX12_isInRegion "TreasureWalkModel" 3 := X
  show tw_Rf z r _ σ 0 [(0, .ref (tw_zB z + 442)), (1, .int x0), (2, .int x1)] []
  unfold tw_P_X12_isInRegion
  refine r_aload_n X dX12_isInRegion_0 rfl 0 rfl ?_
  refine tw_g12_21 (k := 442) (v := .ref (tw_zB z + 457)) X dX12_isInRegion_1 _ tw_w1273 tw_kc442 rfl ?_
  refine r_iload_n X dX12_isInRegion_4 rfl 1 rfl ?_
  refine r_aald (k := 457) (r := 457 + 1 + 10 * Int32.toNatClampNeg x0) X dX12_isInRegion_5 (tw_kd_lt tw_kc457 (by decide)) (tw_E19 tw_kc457) rfl rfl rfl (fun h1 => ?_)
  refine r_aload_n X dX12_isInRegion_6 rfl 0 rfl ?_
  refine r_iload_n X dX12_isInRegion_7 rfl 1 rfl ?_
  refine r_bd (fun r2 hr2 => ?_)
  refine tw_c_X12_legs X dX12_isInRegion_8 _ tw_w1543  hr2 (tw_le hfr rfl) (tw_le hlo rfl) hcs (Nat.le_of_ble_eq_true rfl) trivial ?_
  refine r_aald (k := (457 + 1 + 10 * Int32.toNatClampNeg x0)) (r := (457 + 1 + 10 * Int32.toNatClampNeg x0) + 1 + 1 * Int32.toNatClampNeg r2) X dX12_isInRegion_11 (tw_kd_lt (tw_ke19 tw_kc457 (tw_ok_lt h1)) (by decide)) (tw_E18 (tw_ke19 tw_kc457 (tw_ok_lt h1))) rfl rfl rfl (fun h3 => ?_)
  refine r_iload_n X dX12_isInRegion_12 rfl 2 rfl ?_
  refine r_zald (k := ((457 + 1 + 10 * Int32.toNatClampNeg x0) + 1 + 1 * Int32.toNatClampNeg r2)) X dX12_isInRegion_13 (tw_ke18 (tw_ke19 tw_kc457 (tw_ok_lt h1)) (tw_ok_lt h3)) ?_
  exact r_zret X dX12_isInRegion_14 hret hQ rfl
theorem tw_c_X12_isInRegion {ρ : Type} {z : tw_Z} {cc : ByteArray} {own : String} {nL pc : Nat} {σ : tw_Sg} {L : List (Nat × Value)} {st : List Value} {ix : Nat} {x0 : Int32} {x1 : Int32} (X : tw_X z cc own nL) (d : decode cc pc = .ok (.invokevirtual ix, 3)) (i : Nat) (hi : lw_tbl[i]? = some (.methodLink own ix yX12_isInRegion))  {res : ρ} {E : Option ρ} {r : Int32} (h : tw_P_X12_isInRegion x0 x1 σ = some r) (h1 : 3 ≤ (tw_zR z).frames) (h2 : 63 ≤ (tw_zR z).locals) (hcs : tw_zcells z ≤ (tw_zR z).cells ∧ tw_zslots z ≤ (tw_zR z).slots) (hst : (st.map fun v => v.category).sum ≤ 8) (_ : True) (kk : tw_Rf z res E σ (pc + 3) L (.int r :: st)) : tw_Rf z res E σ pc L (.int x1 :: .int x0 :: .ref (tw_zB z + 442) :: st) := r_callV (As := [.int x0, .int x1]) X d (tw_m_X12_isInRegion  h) tw_y_X12_isInRegion tw_v_X12_isInRegion i hi rfl (tw_kd_lt tw_kc442 (by decide)) (tw_E12 tw_kc442) rfl ⟨rfl, rfl, h1, h2⟩ hcs hst rfl kk
def tw_P_X12_firstWithout (n : Nat) (x0 : Int32) (σ : tw_Sg) : Option (Int32 × tw_Sg) :=
tw_bd (tw_P_X12_lay n σ) (fun r1 =>
tw_lt (0 : Int32) (fun (v2 : Int32) =>
tw_lp (fun (k4 : (Int32) → Option (Int32 × tw_Sg)) (a3 : Int32) =>
tw_ck (tw_ok (3 : Int32) (tw_ln 444)) (
if (r1 444 (Int32.toNatClampNeg (3 : Int32))) ≤ a3 then (some ((-1 : Int32), r1))
else (tw_bd (tw_P_X12_clueAt a3 r1) (fun r5 =>
tw_ck (tw_ok (r5 + (0 : Int32)) (tw_ln 444)) (
tw_jn (fun (a6 : Unit) =>
tw_lt (a3 + (1 : Int32)) (fun (v8 : Int32) =>
k4 v8)) (fun (j7 : (Unit) → Option (Int32 × tw_Sg)) =>
if ¬ (r1 444 (Int32.toNatClampNeg (r5 + (0 : Int32)))) = (1 : Int32) then (j7 ())
else (tw_bd (tw_P_X12_isInRegion a3 x0 r1) (fun r9 =>
if ¬ r9 = 0 then (j7 ())
else (some (a3, r1)))))))))) n v2))
theorem tw_y_X12_firstWithout : tw_My yX12_firstWithout cX12_firstWithout 3 (some .int) 1 := ⟨List.mem_of_getElem? tw_w1538, List.mem_of_getElem? tw_w101, by decide +kernel, by decide +kernel, by decide +kernel⟩
theorem tw_v_X12_firstWithout : tw_Mv yX12_firstWithout "TreasureWalkModel" := ⟨List.mem_of_getElem? tw_w1537, List.mem_of_getElem? tw_w67, rfl⟩
set_option maxRecDepth 100000 in
set_option maxHeartbeats 4000000 in
theorem tw_m_X12_firstWithout {l : Launch} {B : Nat} {D : va_G} {C : Nat → ClassId} {S : Nat → Nat} {n : Nat} {x0 : Int32} {σ : tw_Sg}  {r : Int32 × tw_Sg} (h : tw_P_X12_firstWithout n x0 σ = some r) : tw_Met l B D C S yX12_firstWithout cX12_firstWithout 3 (some .int) ({ frames := 6, cells := 0, slots := 0, locals := 151 } : Room) [.ref (B + 442), .int x0] σ (some (.int r.1)) r.2 := by
  refine tw_metOfP (tw_P_X12_firstWithout n x0 σ) r h (fun r => (some (.int r.1), r.2)) (by decide +kernel) (Nat.le_of_ble_eq_true rfl) ⟨rfl, rfl⟩ ?_
  intro z el eB eD eC eS hfr hlo hcs X hret hQ
  subst el eB eD eC eS
  have X : tw_X z cX12_firstWithout "TreasureWalkModel" 3 := X
  show tw_Rf z r _ σ 0 [(0, .ref (tw_zB z + 442)), (1, .int x0)] []
  unfold tw_P_X12_firstWithout
  refine r_aload_n X dX12_firstWithout_0 rfl 0 rfl ?_
  refine r_bd (fun r1 hr1 => ?_)
  refine tw_c_X12_lay X dX12_firstWithout_1 _ tw_w1539  hr1 (tw_le hfr rfl) (tw_le hlo rfl) hcs (Nat.le_of_ble_eq_true rfl) trivial ?_
  refine r_iconst X dX12_firstWithout_4 (v := (0 : Int32)) (by decide) ?_
  refine r_istore_n X dX12_firstWithout_5 rfl (by decide) (LL := fun v2 => [(2, .int v2), (0, .ref (tw_zB z + 442)), (1, .int x0)]) (fun _ => rfl) (fun v2 => ?_)
  refine r_lp (α := Int32) (σJ := fun a3 => r1) (pcJ := 6) (LJ := fun a3 => [(2, .int a3), (0, .ref (tw_zB z + 442)), (1, .int x0)]) (stJ := fun a3 => []) (fun k4 hk4 a3 => ?_) n v2
  refine r_iload_n X dX12_firstWithout_6 rfl 0 rfl ?_
  refine r_aload_n X dX12_firstWithout_7 rfl 1 rfl ?_
  refine tw_g12_8 (k := 442) (v := .ref (tw_zB z + 444)) X dX12_firstWithout_8 _ tw_w1260 tw_kc442 rfl ?_
  refine r_iconst X dX12_firstWithout_11 (v := (3 : Int32)) (by decide) ?_
  refine r_iald (k := 444) X dX12_firstWithout_12 tw_kc444 ?_
  refine r_icmp_ge X dX12_firstWithout_13 (tgt := 48) (by decide) ?_ ?_
  ·
    refine r_iconst X dX12_firstWithout_48 (v := (-1 : Int32)) (by decide) ?_
    exact r_iret X dX12_firstWithout_49 hret hQ rfl
  ·
    refine r_aload_n X dX12_firstWithout_16 rfl 1 rfl ?_
    refine tw_g12_8 (k := 442) (v := .ref (tw_zB z + 444)) X dX12_firstWithout_17 _ tw_w1260 tw_kc442 rfl ?_
    refine r_iload_n X dX12_firstWithout_20 rfl 0 rfl ?_
    refine r_bd (fun r5 hr5 => ?_)
    refine tw_c_X12_clueAt X dX12_firstWithout_21 _ tw_w1460  hr5 (tw_le hfr rfl) (tw_le hlo rfl) hcs (Nat.le_of_ble_eq_true rfl) trivial ?_
    refine r_iconst X dX12_firstWithout_24 (v := (0 : Int32)) (by decide) ?_
    refine r_iadd X dX12_firstWithout_25 ?_
    refine r_iald (k := 444) X dX12_firstWithout_26 tw_kc444 ?_
    refine r_iconst X dX12_firstWithout_27 (v := (1 : Int32)) (by decide) ?_
    refine r_jn (α := Unit) (σJ := fun a6 => r1) (pcJ := 42) (LJ := fun a6 => [(2, .int a3), (0, .ref (tw_zB z + 442)), (1, .int x0)]) (stJ := fun a6 => []) (ok := fun a6 => True) (fun a6 hoka6 => ?_) (fun j7 hj7 => ?_)
    ·
      refine r_iinc X dX12_firstWithout_42 0 rfl (v := (1 : Int32)) (by decide) (by decide) (LL := fun v8 => [(2, .int v8), (0, .ref (tw_zB z + 442)), (1, .int x0)]) (fun _ => rfl) (fun v8 => ?_)
      refine r_goto X dX12_firstWithout_45 (tgt := 6) (by decide) ?_
      exact hk4 v8
    refine r_icmp_ne X dX12_firstWithout_28 (tgt := 42) (by decide) ?_ ?_
    ·
      exact hj7 () trivial
    ·
      refine r_aload_n X dX12_firstWithout_31 rfl 1 rfl ?_
      refine r_iload_n X dX12_firstWithout_32 rfl 0 rfl ?_
      refine r_iload_n X dX12_firstWithout_33 rfl 2 rfl ?_
      refine r_bd (fun r9 hr9 => ?_)
      refine tw_c_X12_isInRegion X dX12_firstWithout_34 _ tw_w1580  hr9 (tw_le hfr rfl) (tw_le hlo rfl) hcs (Nat.le_of_ble_eq_true rfl) trivial ?_
      refine r_if_ne X dX12_firstWithout_37 (tgt := 42) (by decide) ?_ ?_
      ·
        exact hj7 () trivial
      ·
        refine r_iload_n X dX12_firstWithout_40 rfl 0 rfl ?_
        exact r_iret X dX12_firstWithout_41 hret hQ rfl
theorem tw_c_X12_firstWithout {ρ : Type} {z : tw_Z} {cc : ByteArray} {own : String} {nL pc : Nat} {σ : tw_Sg} {L : List (Nat × Value)} {st : List Value} {ix : Nat} {n : Nat} {x0 : Int32} (X : tw_X z cc own nL) (d : decode cc pc = .ok (.invokevirtual ix, 3)) (i : Nat) (hi : lw_tbl[i]? = some (.methodLink own ix yX12_firstWithout))  {res : ρ} {E : Option ρ} {r : Int32 × tw_Sg} (h : tw_P_X12_firstWithout n x0 σ = some r) (h1 : 7 ≤ (tw_zR z).frames) (h2 : 173 ≤ (tw_zR z).locals) (hcs : tw_zcells z ≤ (tw_zR z).cells ∧ tw_zslots z ≤ (tw_zR z).slots) (hst : (st.map fun v => v.category).sum ≤ 8) (_ : True) (kk : tw_Rf z res E r.2 (pc + 3) L (.int r.1 :: st)) : tw_Rf z res E σ pc L (.int x0 :: .ref (tw_zB z + 442) :: st) := r_callV (As := [.int x0]) X d (tw_m_X12_firstWithout  h) tw_y_X12_firstWithout tw_v_X12_firstWithout i hi rfl (tw_kd_lt tw_kc442 (by decide)) (tw_E12 tw_kc442) rfl ⟨rfl, rfl, h1, h2⟩ hcs hst rfl kk
def tw_P_X12_isCandidate (n : Nat) (x0 : Int32) (σ : tw_Sg) : Option (Int32 × tw_Sg) :=
tw_bd (tw_P_X12_isLand x0 σ) (fun r1 =>
tw_jn (fun (a2 : Int32 × tw_Sg) =>
tw_ck (tw_01 a2.1) (some (a2.1, a2.2))) (fun (j3 : (Int32 × tw_Sg) → Option (Int32 × tw_Sg)) =>
tw_jn (fun (a4 : tw_Sg) =>
j3 ((0 : Int32), a4)) (fun (j5 : (tw_Sg) → Option (Int32 × tw_Sg)) =>
if r1 = 0 then (j5 σ)
else (tw_bd (tw_P_X12_firstWithout n x0 σ) (fun r6 =>
if ¬ r6.1 = (-1 : Int32) then (j5 r6.2)
else (j3 ((1 : Int32), r6.2)))))))
theorem tw_y_X12_isCandidate : tw_My yX12_isCandidate cX12_isCandidate 2 (some .boolean) 1 := ⟨List.mem_of_getElem? tw_w1530, List.mem_of_getElem? tw_w101, by decide +kernel, by decide +kernel, by decide +kernel⟩
theorem tw_v_X12_isCandidate : tw_Mv yX12_isCandidate "TreasureWalkModel" := ⟨List.mem_of_getElem? tw_w1529, List.mem_of_getElem? tw_w65, rfl⟩
set_option maxRecDepth 100000 in
set_option maxHeartbeats 4000000 in
theorem tw_m_X12_isCandidate {l : Launch} {B : Nat} {D : va_G} {C : Nat → ClassId} {S : Nat → Nat} {n : Nat} {x0 : Int32} {σ : tw_Sg}  {r : Int32 × tw_Sg} (h : tw_P_X12_isCandidate n x0 σ = some r) : tw_Met l B D C S yX12_isCandidate cX12_isCandidate 2 (some .boolean) ({ frames := 7, cells := 0, slots := 0, locals := 173 } : Room) [.ref (B + 442), .int x0] σ (some (.int r.1)) r.2 := by
  refine tw_metOfP (tw_P_X12_isCandidate n x0 σ) r h (fun r => (some (.int r.1), r.2)) (by decide +kernel) (Nat.le_of_ble_eq_true rfl) ⟨rfl, rfl⟩ ?_
  intro z el eB eD eC eS hfr hlo hcs X hret hQ
  subst el eB eD eC eS
  have X : tw_X z cX12_isCandidate "TreasureWalkModel" 2 := X
  show tw_Rf z r _ σ 0 [(0, .ref (tw_zB z + 442)), (1, .int x0)] []
  unfold tw_P_X12_isCandidate
  refine r_aload_n X dX12_isCandidate_0 rfl 0 rfl ?_
  refine r_iload_n X dX12_isCandidate_1 rfl 1 rfl ?_
  refine r_bd (fun r1 hr1 => ?_)
  refine tw_c_X12_isLand X dX12_isCandidate_2 _ tw_w1531  hr1 (tw_le hfr rfl) (tw_le hlo rfl) hcs (Nat.le_of_ble_eq_true rfl) trivial ?_
  refine r_jn (α := Int32 × tw_Sg) (σJ := fun a2 => a2.2) (pcJ := 22) (LJ := fun a2 => []) (stJ := fun a2 => [.int a2.1]) (ok := fun a2 => True) (fun a2 hoka2 => ?_) (fun j3 hj3 => ?_)
  ·
    exact r_zret X dX12_isCandidate_22 hret hQ rfl
  refine r_jn (α := tw_Sg) (σJ := fun a4 => a4) (pcJ := 21) (LJ := fun a4 => []) (stJ := fun a4 => []) (ok := fun a4 => True) (fun a4 hoka4 => ?_) (fun j5 hj5 => ?_)
  ·
    refine r_iconst X dX12_isCandidate_21 (v := (0 : Int32)) (by decide) ?_
    exact hj3 ((0 : Int32), a4) trivial
  refine r_if_eq X dX12_isCandidate_5 (tgt := 21) (by decide) ?_ ?_
  ·
    exact tw_Rf.sub [] rfl (hj5 σ trivial)
  ·
    refine r_aload_n X dX12_isCandidate_8 rfl 0 rfl ?_
    refine r_iload_n X dX12_isCandidate_9 rfl 1 rfl ?_
    refine r_bd (fun r6 hr6 => ?_)
    refine tw_c_X12_firstWithout X dX12_isCandidate_10 _ tw_w1535  hr6 (tw_le hfr rfl) (tw_le hlo rfl) hcs (Nat.le_of_ble_eq_true rfl) trivial ?_
    refine r_iconst X dX12_isCandidate_13 (v := (-1 : Int32)) (by decide) ?_
    refine r_icmp_ne X dX12_isCandidate_14 (tgt := 21) (by decide) ?_ ?_
    ·
      exact tw_Rf.sub [] rfl (hj5 r6.2 trivial)
    ·
      refine r_iconst X dX12_isCandidate_17 (v := (1 : Int32)) (by decide) ?_
      refine r_goto X dX12_isCandidate_18 (tgt := 22) (by decide) ?_
      exact tw_Rf.sub [] rfl (hj3 ((1 : Int32), r6.2) trivial)
theorem tw_c_X12_isCandidate {ρ : Type} {z : tw_Z} {cc : ByteArray} {own : String} {nL pc : Nat} {σ : tw_Sg} {L : List (Nat × Value)} {st : List Value} {ix : Nat} {n : Nat} {x0 : Int32} (X : tw_X z cc own nL) (d : decode cc pc = .ok (.invokevirtual ix, 3)) (i : Nat) (hi : lw_tbl[i]? = some (.methodLink own ix yX12_isCandidate))  {res : ρ} {E : Option ρ} {r : Int32 × tw_Sg} (h : tw_P_X12_isCandidate n x0 σ = some r) (h1 : 8 ≤ (tw_zR z).frames) (h2 : 194 ≤ (tw_zR z).locals) (hcs : tw_zcells z ≤ (tw_zR z).cells ∧ tw_zslots z ≤ (tw_zR z).slots) (hst : (st.map fun v => v.category).sum ≤ 8) (_ : True) (kk : tw_Rf z res E r.2 (pc + 3) L (.int r.1 :: st)) : tw_Rf z res E σ pc L (.int x0 :: .ref (tw_zB z + 442) :: st) := r_callV (As := [.int x0]) X d (tw_m_X12_isCandidate  h) tw_y_X12_isCandidate tw_v_X12_isCandidate i hi rfl (tw_kd_lt tw_kc442 (by decide)) (tw_E12 tw_kc442) rfl ⟨rfl, rfl, h1, h2⟩ hcs hst rfl kk
def tw_P_X12_isLeft (n : Nat) (x0 : Int32) (σ : tw_Sg) : Option (Int32 × tw_Sg) :=
tw_ck (tw_ok ((408 : Int32) + x0) (tw_ln 444)) (
tw_jn (fun (a1 : Int32 × tw_Sg) =>
tw_ck (tw_01 a1.1) (some (a1.1, a1.2))) (fun (j2 : (Int32 × tw_Sg) → Option (Int32 × tw_Sg)) =>
tw_jn (fun (a3 : tw_Sg) =>
j2 ((0 : Int32), a3)) (fun (j4 : (tw_Sg) → Option (Int32 × tw_Sg)) =>
if ¬ (σ 444 (Int32.toNatClampNeg ((408 : Int32) + x0))) = 0 then (j4 σ)
else (tw_bd (tw_P_X12_isCandidate n x0 σ) (fun r5 =>
if r5.1 = 0 then (j4 r5.2)
else (j2 ((1 : Int32), r5.2)))))))
theorem tw_y_X12_isLeft : tw_My yX12_isLeft cX12_isLeft 2 (some .boolean) 1 := ⟨List.mem_of_getElem? tw_w1587, List.mem_of_getElem? tw_w101, by decide +kernel, by decide +kernel, by decide +kernel⟩
theorem tw_v_X12_isLeft : tw_Mv yX12_isLeft "TreasureWalkModel" := ⟨List.mem_of_getElem? tw_w1586, List.mem_of_getElem? tw_w77, rfl⟩
set_option maxRecDepth 100000 in
set_option maxHeartbeats 4000000 in
theorem tw_m_X12_isLeft {l : Launch} {B : Nat} {D : va_G} {C : Nat → ClassId} {S : Nat → Nat} {n : Nat} {x0 : Int32} {σ : tw_Sg}  {r : Int32 × tw_Sg} (h : tw_P_X12_isLeft n x0 σ = some r) : tw_Met l B D C S yX12_isLeft cX12_isLeft 2 (some .boolean) ({ frames := 8, cells := 0, slots := 0, locals := 194 } : Room) [.ref (B + 442), .int x0] σ (some (.int r.1)) r.2 := by
  refine tw_metOfP (tw_P_X12_isLeft n x0 σ) r h (fun r => (some (.int r.1), r.2)) (by decide +kernel) (Nat.le_of_ble_eq_true rfl) ⟨rfl, rfl⟩ ?_
  intro z el eB eD eC eS hfr hlo hcs X hret hQ
  subst el eB eD eC eS
  have X : tw_X z cX12_isLeft "TreasureWalkModel" 2 := X
  show tw_Rf z r _ σ 0 [(0, .ref (tw_zB z + 442)), (1, .int x0)] []
  unfold tw_P_X12_isLeft
  refine r_aload_n X dX12_isLeft_0 rfl 0 rfl ?_
  refine tw_g12_8 (k := 442) (v := .ref (tw_zB z + 444)) X dX12_isLeft_1 _ tw_w1260 tw_kc442 rfl ?_
  refine r_sipush X dX12_isLeft_4 (v := (408 : Int32)) (by decide) ?_
  refine r_iload_n X dX12_isLeft_7 rfl 1 rfl ?_
  refine r_iadd X dX12_isLeft_8 ?_
  refine r_iald (k := 444) X dX12_isLeft_9 tw_kc444 ?_
  refine r_jn (α := Int32 × tw_Sg) (σJ := fun a1 => a1.2) (pcJ := 26) (LJ := fun a1 => []) (stJ := fun a1 => [.int a1.1]) (ok := fun a1 => True) (fun a1 hoka1 => ?_) (fun j2 hj2 => ?_)
  ·
    exact r_zret X dX12_isLeft_26 hret hQ rfl
  refine r_jn (α := tw_Sg) (σJ := fun a3 => a3) (pcJ := 25) (LJ := fun a3 => []) (stJ := fun a3 => []) (ok := fun a3 => True) (fun a3 hoka3 => ?_) (fun j4 hj4 => ?_)
  ·
    refine r_iconst X dX12_isLeft_25 (v := (0 : Int32)) (by decide) ?_
    exact hj2 ((0 : Int32), a3) trivial
  refine r_if_ne X dX12_isLeft_10 (tgt := 25) (by decide) ?_ ?_
  ·
    exact tw_Rf.sub [] rfl (hj4 σ trivial)
  ·
    refine r_aload_n X dX12_isLeft_13 rfl 0 rfl ?_
    refine r_iload_n X dX12_isLeft_14 rfl 1 rfl ?_
    refine r_bd (fun r5 hr5 => ?_)
    refine tw_c_X12_isCandidate X dX12_isLeft_15 _ tw_w1527  hr5 (tw_le hfr rfl) (tw_le hlo rfl) hcs (Nat.le_of_ble_eq_true rfl) trivial ?_
    refine r_if_eq X dX12_isLeft_18 (tgt := 25) (by decide) ?_ ?_
    ·
      exact tw_Rf.sub [] rfl (hj4 r5.2 trivial)
    ·
      refine r_iconst X dX12_isLeft_21 (v := (1 : Int32)) (by decide) ?_
      refine r_goto X dX12_isLeft_22 (tgt := 26) (by decide) ?_
      exact tw_Rf.sub [] rfl (hj2 ((1 : Int32), r5.2) trivial)
theorem tw_c_X12_isLeft {ρ : Type} {z : tw_Z} {cc : ByteArray} {own : String} {nL pc : Nat} {σ : tw_Sg} {L : List (Nat × Value)} {st : List Value} {ix : Nat} {n : Nat} {x0 : Int32} (X : tw_X z cc own nL) (d : decode cc pc = .ok (.invokevirtual ix, 3)) (i : Nat) (hi : lw_tbl[i]? = some (.methodLink own ix yX12_isLeft))  {res : ρ} {E : Option ρ} {r : Int32 × tw_Sg} (h : tw_P_X12_isLeft n x0 σ = some r) (h1 : 9 ≤ (tw_zR z).frames) (h2 : 215 ≤ (tw_zR z).locals) (hcs : tw_zcells z ≤ (tw_zR z).cells ∧ tw_zslots z ≤ (tw_zR z).slots) (hst : (st.map fun v => v.category).sum ≤ 8) (_ : True) (kk : tw_Rf z res E r.2 (pc + 3) L (.int r.1 :: st)) : tw_Rf z res E σ pc L (.int x0 :: .ref (tw_zB z + 442) :: st) := r_callV (As := [.int x0]) X d (tw_m_X12_isLeft  h) tw_y_X12_isLeft tw_v_X12_isLeft i hi rfl (tw_kd_lt tw_kc442 (by decide)) (tw_E12 tw_kc442) rfl ⟨rfl, rfl, h1, h2⟩ hcs hst rfl kk
def tw_P_X12_endOf (n : Nat) (x0 : Int32) (x1 : Int32) (x2 : Int32) (σ : tw_Sg) : Option (Int32 × tw_Sg) :=
tw_bd (tw_P_X12_legAt x0 x1 σ) (fun r1 =>
tw_bd (tw_P_X12_layEnds n r1 x2 σ) (fun r2 =>
tw_lt r2.1 (fun (v3 : Int32) =>
tw_lt (0 : Int32) (fun (v4 : Int32) =>
tw_lp (fun (k6 : (Int32) → Option (Int32 × tw_Sg)) (a5 : Int32) =>
if v3 ≤ a5 then (some ((-1 : Int32), r2.2))
else (tw_ck (tw_ok (x1 + (1 : Int32)) (tw_ln 498)) (
tw_ck (tw_ok a5 (tw_ln 455)) (
tw_ck (tw_ok (r2.2 455 (Int32.toNatClampNeg a5)) (tw_ln (498 + 1 + 1 * Int32.toNatClampNeg (x1 + (1 : Int32))))) (
if (r2.2 (498 + 1 + 1 * Int32.toNatClampNeg (x1 + (1 : Int32))) (Int32.toNatClampNeg (r2.2 455 (Int32.toNatClampNeg a5)))) = 0 then (tw_lt (a5 + (1 : Int32)) (fun (v8 : Int32) =>
k6 v8))
else (some (a5, r2.2))))))) n v4))))
theorem tw_y_X12_endOf : tw_My yX12_endOf cX12_endOf 6 (some .int) 3 := ⟨List.mem_of_getElem? tw_w1639, List.mem_of_getElem? tw_w101, by decide +kernel, by decide +kernel, by decide +kernel⟩
theorem tw_v_X12_endOf : tw_Mv yX12_endOf "TreasureWalkModel" := ⟨List.mem_of_getElem? tw_w1638, List.mem_of_getElem? tw_w84, rfl⟩
set_option maxRecDepth 100000 in
set_option maxHeartbeats 4000000 in
theorem tw_m_X12_endOf {l : Launch} {B : Nat} {D : va_G} {C : Nat → ClassId} {S : Nat → Nat} {n : Nat} {x0 : Int32} {x1 : Int32} {x2 : Int32} {σ : tw_Sg}  {r : Int32 × tw_Sg} (h : tw_P_X12_endOf n x0 x1 x2 σ = some r) : tw_Met l B D C S yX12_endOf cX12_endOf 6 (some .int) ({ frames := 4, cells := 0, slots := 0, locals := 103 } : Room) [.ref (B + 442), .int x0, .int x1, .int x2] σ (some (.int r.1)) r.2 := by
  refine tw_metOfP (tw_P_X12_endOf n x0 x1 x2 σ) r h (fun r => (some (.int r.1), r.2)) (by decide +kernel) (Nat.le_of_ble_eq_true rfl) ⟨rfl, rfl⟩ ?_
  intro z el eB eD eC eS hfr hlo hcs X hret hQ
  subst el eB eD eC eS
  have X : tw_X z cX12_endOf "TreasureWalkModel" 6 := X
  show tw_Rf z r _ σ 0 [(0, .ref (tw_zB z + 442)), (1, .int x0), (2, .int x1), (3, .int x2)] []
  unfold tw_P_X12_endOf
  refine r_aload_n X dX12_endOf_0 rfl 0 rfl ?_
  refine r_iload_n X dX12_endOf_1 rfl 1 rfl ?_
  refine r_iload_n X dX12_endOf_2 rfl 2 rfl ?_
  refine r_bd (fun r1 hr1 => ?_)
  refine tw_c_X12_legAt X dX12_endOf_3 _ tw_w1555  hr1 (tw_le hfr rfl) (tw_le hlo rfl) hcs (Nat.le_of_ble_eq_true rfl) trivial ?_
  refine r_iload_n X dX12_endOf_6 rfl 3 rfl ?_
  refine r_bd (fun r2 hr2 => ?_)
  refine tw_c_X12_layEnds X dX12_endOf_7 _ tw_w1558  hr2 (tw_le hfr rfl) (tw_le hlo rfl) hcs (Nat.le_of_ble_eq_true rfl) trivial ?_
  refine r_istore X dX12_endOf_10 (by decide) (LL := fun v3 => [(4, .int v3), (0, .ref (tw_zB z + 442)), (1, .int x0), (2, .int x1), (3, .int x2)]) (fun _ => rfl) (fun v3 => ?_)
  refine r_iconst X dX12_endOf_12 (v := (0 : Int32)) (by decide) ?_
  refine r_istore X dX12_endOf_13 (by decide) (LL := fun v4 => [(5, .int v4), (4, .int v3), (0, .ref (tw_zB z + 442)), (1, .int x0), (2, .int x1), (3, .int x2)]) (fun _ => rfl) (fun v4 => ?_)
  refine tw_Rf.sub [0, 1, 2, 4] rfl ?_
  refine r_lp (α := Int32) (σJ := fun a5 => r2.2) (pcJ := 15) (LJ := fun a5 => [(5, .int a5), (4, .int v3), (0, .ref (tw_zB z + 442)), (2, .int x1)]) (stJ := fun a5 => []) (fun k6 hk6 a5 => ?_) n v4
  refine r_iload X dX12_endOf_15 0 rfl ?_
  refine r_iload X dX12_endOf_17 1 rfl ?_
  refine r_icmp_ge X dX12_endOf_19 (tgt := 50) (by decide) ?_ ?_
  ·
    refine r_iconst X dX12_endOf_50 (v := (-1 : Int32)) (by decide) ?_
    exact r_iret X dX12_endOf_51 hret hQ rfl
  ·
    refine r_aload_n X dX12_endOf_22 rfl 2 rfl ?_
    refine tw_g12_23 (k := 442) (v := .ref (tw_zB z + 498)) X dX12_endOf_23 _ tw_w1275 tw_kc442 rfl ?_
    refine r_iload_n X dX12_endOf_26 rfl 3 rfl ?_
    refine r_iconst X dX12_endOf_27 (v := (1 : Int32)) (by decide) ?_
    refine r_iadd X dX12_endOf_28 ?_
    refine r_aald (k := 498) (r := 498 + 1 + 1 * Int32.toNatClampNeg (x1 + (1 : Int32))) X dX12_endOf_29 (tw_kd_lt tw_kc498 (by decide)) (tw_E18 tw_kc498) rfl rfl rfl (fun h7 => ?_)
    refine r_aload_n X dX12_endOf_30 rfl 2 rfl ?_
    refine tw_g12_19 (k := 442) (v := .ref (tw_zB z + 455)) X dX12_endOf_31 _ tw_w1271 tw_kc442 rfl ?_
    refine r_iload X dX12_endOf_34 0 rfl ?_
    refine r_iald (k := 455) X dX12_endOf_36 tw_kc455 ?_
    refine r_zald (k := (498 + 1 + 1 * Int32.toNatClampNeg (x1 + (1 : Int32)))) X dX12_endOf_37 (tw_ke18 tw_kc498 (tw_ok_lt h7)) ?_
    refine r_if_eq X dX12_endOf_38 (tgt := 44) (by decide) ?_ ?_
    ·
      refine r_iinc X dX12_endOf_44 0 rfl (v := (1 : Int32)) (by decide) (by decide) (LL := fun v8 => [(5, .int v8), (4, .int v3), (0, .ref (tw_zB z + 442)), (2, .int x1)]) (fun _ => rfl) (fun v8 => ?_)
      refine r_goto X dX12_endOf_47 (tgt := 15) (by decide) ?_
      exact hk6 v8
    ·
      refine r_iload X dX12_endOf_41 0 rfl ?_
      exact r_iret X dX12_endOf_43 hret hQ rfl
theorem tw_c_X12_endOf {ρ : Type} {z : tw_Z} {cc : ByteArray} {own : String} {nL pc : Nat} {σ : tw_Sg} {L : List (Nat × Value)} {st : List Value} {ix : Nat} {n : Nat} {x0 : Int32} {x1 : Int32} {x2 : Int32} (X : tw_X z cc own nL) (d : decode cc pc = .ok (.invokevirtual ix, 3)) (i : Nat) (hi : lw_tbl[i]? = some (.methodLink own ix yX12_endOf))  {res : ρ} {E : Option ρ} {r : Int32 × tw_Sg} (h : tw_P_X12_endOf n x0 x1 x2 σ = some r) (h1 : 5 ≤ (tw_zR z).frames) (h2 : 128 ≤ (tw_zR z).locals) (hcs : tw_zcells z ≤ (tw_zR z).cells ∧ tw_zslots z ≤ (tw_zR z).slots) (hst : (st.map fun v => v.category).sum ≤ 8) (_ : True) (kk : tw_Rf z res E r.2 (pc + 3) L (.int r.1 :: st)) : tw_Rf z res E σ pc L (.int x2 :: .int x1 :: .int x0 :: .ref (tw_zB z + 442) :: st) := r_callV (As := [.int x0, .int x1, .int x2]) X d (tw_m_X12_endOf  h) tw_y_X12_endOf tw_v_X12_endOf i hi rfl (tw_kd_lt tw_kc442 (by decide)) (tw_E12 tw_kc442) rfl ⟨rfl, rfl, h1, h2⟩ hcs hst rfl kk
def tw_P_X12_layLeads (n : Nat) (x0 : Int32) (x1 : Int32) (σ : tw_Sg) : Option (tw_Sg) :=
tw_bd (tw_P_X12_legs x0 σ) (fun r1 =>
tw_lt r1 (fun (v2 : Int32) =>
tw_lt v2 (fun (v3 : Int32) =>
tw_lp (fun (k5 : (Int32 × tw_Sg) → Option (tw_Sg)) (a4 : Int32 × tw_Sg) =>
if a4.1 < 0 then (some a4.2)
else (tw_lt (0 : Int32) (fun (v6 : Int32) =>
tw_lp (fun (k8 : (Int32 × Int32 × tw_Sg) → Option (tw_Sg)) (a7 : Int32 × Int32 × tw_Sg) =>
tw_bd (tw_P_X12_cells a7.2.2) (fun r9 =>
if r9 ≤ a7.2.1 then (tw_lt (a7.1 + (-1 : Int32)) (fun (v10 : Int32) =>
k5 (v10, a7.2.2)))
else (tw_ck (tw_ok a7.1 (tw_ln 498)) (
tw_jn (fun (a12 : Int32 × tw_Sg) =>
tw_ck (tw_ok a7.2.1 (tw_ln (498 + 1 + 1 * Int32.toNatClampNeg a7.1))) (tw_lt (tw_up a12.2 (498 + 1 + 1 * Int32.toNatClampNeg a7.1) (Int32.toNatClampNeg a7.2.1) (vp_nar .boolean a12.1)) (fun (σ14 : tw_Sg) =>
tw_lt (a7.2.1 + (1 : Int32)) (fun (v15 : Int32) =>
k8 (a7.1, v15, σ14))))) (fun (j13 : (Int32 × tw_Sg) → Option (tw_Sg)) =>
if ¬ a7.1 = v2 then (tw_bd (tw_P_X12_endOf n x0 a7.1 a7.2.1 a7.2.2) (fun r16 =>
if r16.1 = (-1 : Int32) then (j13 ((0 : Int32), r16.2))
else (j13 ((1 : Int32), r16.2))))
else (if ¬ a7.2.1 = x1 then (j13 ((0 : Int32), a7.2.2))
else (j13 ((1 : Int32), a7.2.2)))))))) n (a4.1, v6, a4.2)))) n (v3, σ))))
theorem tw_y_X12_layLeads : tw_My yX12_layLeads cX12_layLeads 6 none 2 := ⟨List.mem_of_getElem? tw_w1635, List.mem_of_getElem? tw_w101, by decide +kernel, by decide +kernel, by decide +kernel⟩
theorem tw_v_X12_layLeads : tw_Mv yX12_layLeads "TreasureWalkModel" := ⟨List.mem_of_getElem? tw_w1634, List.mem_of_getElem? tw_w83, rfl⟩
set_option maxRecDepth 100000 in
set_option maxHeartbeats 4000000 in
theorem tw_m_X12_layLeads {l : Launch} {B : Nat} {D : va_G} {C : Nat → ClassId} {S : Nat → Nat} {n : Nat} {x0 : Int32} {x1 : Int32} {σ : tw_Sg}  {r : tw_Sg} (h : tw_P_X12_layLeads n x0 x1 σ = some r) : tw_Met l B D C S yX12_layLeads cX12_layLeads 6 none ({ frames := 5, cells := 0, slots := 0, locals := 128 } : Room) [.ref (B + 442), .int x0, .int x1] σ (none) r := by
  refine tw_metOfP (tw_P_X12_layLeads n x0 x1 σ) r h (fun r => (none, r)) (by decide +kernel) (Nat.le_of_ble_eq_true rfl) ⟨rfl, rfl⟩ ?_
  intro z el eB eD eC eS hfr hlo hcs X hret hQ
  subst el eB eD eC eS
  have X : tw_X z cX12_layLeads "TreasureWalkModel" 6 := X
  show tw_Rf z r _ σ 0 [(0, .ref (tw_zB z + 442)), (1, .int x0), (2, .int x1)] []
  unfold tw_P_X12_layLeads
  refine r_aload_n X dX12_layLeads_0 rfl 0 rfl ?_
  refine r_iload_n X dX12_layLeads_1 rfl 1 rfl ?_
  refine r_bd (fun r1 hr1 => ?_)
  refine tw_c_X12_legs X dX12_layLeads_2 _ tw_w1543  hr1 (tw_le hfr rfl) (tw_le hlo rfl) hcs (Nat.le_of_ble_eq_true rfl) trivial ?_
  refine r_istore_n X dX12_layLeads_5 rfl (by decide) (LL := fun v2 => [(3, .int v2), (0, .ref (tw_zB z + 442)), (1, .int x0), (2, .int x1)]) (fun _ => rfl) (fun v2 => ?_)
  refine r_iload_n X dX12_layLeads_6 rfl 0 rfl ?_
  refine r_istore X dX12_layLeads_7 (by decide) (LL := fun v3 => [(4, .int v3), (3, .int v2), (0, .ref (tw_zB z + 442)), (1, .int x0), (2, .int x1)]) (fun _ => rfl) (fun v3 => ?_)
  refine r_lp (α := Int32 × tw_Sg) (σJ := fun a4 => a4.2) (pcJ := 9) (LJ := fun a4 => [(4, .int a4.1), (3, .int v2), (0, .ref (tw_zB z + 442)), (1, .int x0), (2, .int x1)]) (stJ := fun a4 => []) (fun k5 hk5 a4 => ?_) n (v3, σ)
  refine r_iload X dX12_layLeads_9 0 rfl ?_
  refine r_if_lt X dX12_layLeads_11 (tgt := 86) (by decide) ?_ ?_
  ·
    exact r_vret X dX12_layLeads_86 hret hQ rfl
  ·
    refine r_iconst X dX12_layLeads_14 (v := (0 : Int32)) (by decide) ?_
    refine r_istore X dX12_layLeads_15 (by decide) (LL := fun v6 => [(5, .int v6), (4, .int a4.1), (3, .int v2), (0, .ref (tw_zB z + 442)), (1, .int x0), (2, .int x1)]) (fun _ => rfl) (fun v6 => ?_)
    refine r_lp (α := Int32 × Int32 × tw_Sg) (σJ := fun a7 => a7.2.2) (pcJ := 17) (LJ := fun a7 => [(5, .int a7.2.1), (4, .int a7.1), (3, .int v2), (0, .ref (tw_zB z + 442)), (1, .int x0), (2, .int x1)]) (stJ := fun a7 => []) (fun k8 hk8 a7 => ?_) n (a4.1, v6, a4.2)
    refine r_iload X dX12_layLeads_17 0 rfl ?_
    refine r_aload_n X dX12_layLeads_19 rfl 3 rfl ?_
    refine r_bd (fun r9 hr9 => ?_)
    refine tw_c_X12_cells X dX12_layLeads_20 _ tw_w1523  hr9 (tw_le hfr rfl) (tw_le hlo rfl) hcs (Nat.le_of_ble_eq_true rfl) trivial ?_
    refine r_icmp_ge X dX12_layLeads_23 (tgt := 80) (by decide) ?_ ?_
    ·
      refine r_iinc X dX12_layLeads_80 1 rfl (v := (-1 : Int32)) (by decide) (by decide) (LL := fun v10 => [(4, .int v10), (5, .int a7.2.1), (3, .int v2), (0, .ref (tw_zB z + 442)), (1, .int x0), (2, .int x1)]) (fun _ => rfl) (fun v10 => ?_)
      refine r_goto X dX12_layLeads_83 (tgt := 9) (by decide) ?_
      exact tw_Rf.sub [0, 2, 3, 4, 5] rfl (hk5 (v10, a7.2.2))
    ·
      refine r_aload_n X dX12_layLeads_26 rfl 3 rfl ?_
      refine tw_g12_23 (k := 442) (v := .ref (tw_zB z + 498)) X dX12_layLeads_27 _ tw_w1275 tw_kc442 rfl ?_
      refine r_iload X dX12_layLeads_30 1 rfl ?_
      refine r_aald (k := 498) (r := 498 + 1 + 1 * Int32.toNatClampNeg a7.1) X dX12_layLeads_32 (tw_kd_lt tw_kc498 (by decide)) (tw_E18 tw_kc498) rfl rfl rfl (fun h11 => ?_)
      refine r_iload X dX12_layLeads_33 0 rfl ?_
      refine r_iload X dX12_layLeads_35 1 rfl ?_
      refine r_iload_n X dX12_layLeads_37 rfl 2 rfl ?_
      refine r_jn (α := Int32 × tw_Sg) (σJ := fun a12 => a12.2) (pcJ := 73) (LJ := fun a12 => [(5, .int a7.2.1), (4, .int a7.1), (3, .int v2), (0, .ref (tw_zB z + 442)), (1, .int x0), (2, .int x1)]) (stJ := fun a12 => [.int a12.1, .int a7.2.1, .ref (tw_zB z + (498 + 1 + 1 * Int32.toNatClampNeg a7.1))]) (ok := fun a12 => True) (fun a12 hoka12 => ?_) (fun j13 hj13 => ?_)
      ·
        refine r_zast (k := (498 + 1 + 1 * Int32.toNatClampNeg a7.1)) X dX12_layLeads_73 (tw_ke18 tw_kc498 (tw_ok_lt h11)) (fun σ14 => ?_)
        refine r_iinc X dX12_layLeads_74 0 rfl (v := (1 : Int32)) (by decide) (by decide) (LL := fun v15 => [(5, .int v15), (4, .int a7.1), (3, .int v2), (0, .ref (tw_zB z + 442)), (1, .int x0), (2, .int x1)]) (fun _ => rfl) (fun v15 => ?_)
        refine r_goto X dX12_layLeads_77 (tgt := 17) (by decide) ?_
        exact hk8 (a7.1, v15, σ14)
      refine r_icmp_ne X dX12_layLeads_38 (tgt := 55) (by decide) ?_ ?_
      ·
        refine r_aload_n X dX12_layLeads_55 rfl 3 rfl ?_
        refine r_iload_n X dX12_layLeads_56 rfl 4 rfl ?_
        refine r_iload X dX12_layLeads_57 1 rfl ?_
        refine r_iload X dX12_layLeads_59 0 rfl ?_
        refine r_bd (fun r16 hr16 => ?_)
        refine tw_c_X12_endOf X dX12_layLeads_61 _ tw_w1636  hr16 (tw_le hfr rfl) (tw_le hlo rfl) hcs (Nat.le_of_ble_eq_true rfl) trivial ?_
        refine r_iconst X dX12_layLeads_64 (v := (-1 : Int32)) (by decide) ?_
        refine r_icmp_eq X dX12_layLeads_65 (tgt := 72) (by decide) ?_ ?_
        ·
          refine r_iconst X dX12_layLeads_72 (v := (0 : Int32)) (by decide) ?_
          exact hj13 ((0 : Int32), r16.2) trivial
        ·
          refine r_iconst X dX12_layLeads_68 (v := (1 : Int32)) (by decide) ?_
          refine r_goto X dX12_layLeads_69 (tgt := 73) (by decide) ?_
          exact hj13 ((1 : Int32), r16.2) trivial
      ·
        refine r_iload X dX12_layLeads_41 0 rfl ?_
        refine r_iload_n X dX12_layLeads_43 rfl 5 rfl ?_
        refine r_icmp_ne X dX12_layLeads_44 (tgt := 51) (by decide) ?_ ?_
        ·
          refine r_iconst X dX12_layLeads_51 (v := (0 : Int32)) (by decide) ?_
          refine r_goto X dX12_layLeads_52 (tgt := 73) (by decide) ?_
          exact hj13 ((0 : Int32), a7.2.2) trivial
        ·
          refine r_iconst X dX12_layLeads_47 (v := (1 : Int32)) (by decide) ?_
          refine r_goto X dX12_layLeads_48 (tgt := 73) (by decide) ?_
          exact hj13 ((1 : Int32), a7.2.2) trivial
theorem tw_c_X12_layLeads {ρ : Type} {z : tw_Z} {cc : ByteArray} {own : String} {nL pc : Nat} {σ : tw_Sg} {L : List (Nat × Value)} {st : List Value} {ix : Nat} {n : Nat} {x0 : Int32} {x1 : Int32} (X : tw_X z cc own nL) (d : decode cc pc = .ok (.invokevirtual ix, 3)) (i : Nat) (hi : lw_tbl[i]? = some (.methodLink own ix yX12_layLeads))  {res : ρ} {E : Option ρ} {r : tw_Sg} (h : tw_P_X12_layLeads n x0 x1 σ = some r) (h1 : 6 ≤ (tw_zR z).frames) (h2 : 153 ≤ (tw_zR z).locals) (hcs : tw_zcells z ≤ (tw_zR z).cells ∧ tw_zslots z ≤ (tw_zR z).slots) (hst : (st.map fun v => v.category).sum ≤ 8) (_ : True) (kk : tw_Rf z res E r (pc + 3) L (st)) : tw_Rf z res E σ pc L (.int x1 :: .int x0 :: .ref (tw_zB z + 442) :: st) := r_callV (As := [.int x0, .int x1]) X d (tw_m_X12_layLeads  h) tw_y_X12_layLeads tw_v_X12_layLeads i hi rfl (tw_kd_lt tw_kc442 (by decide)) (tw_E12 tw_kc442) rfl ⟨rfl, rfl, h1, h2⟩ hcs hst rfl kk
def tw_P_X12_layFar (n : Nat) (x0 : Int32) (σ : tw_Sg) : Option (tw_Sg) :=
tw_lt (0 : Int32) (fun (v1 : Int32) =>
tw_lp (fun (k3 : (Int32 × tw_Sg) → Option (tw_Sg)) (a2 : Int32 × tw_Sg) =>
tw_bd (tw_P_X12_cells a2.2) (fun r4 =>
if r4 ≤ a2.1 then (tw_ck (tw_ok x0 (tw_ln 508)) (tw_lt (tw_up a2.2 508 (Int32.toNatClampNeg x0) (0 : Int32)) (fun (σ5 : tw_Sg) =>
tw_ck (tw_ok (0 : Int32) (tw_ln 509)) (tw_lt (tw_up σ5 509 (Int32.toNatClampNeg (0 : Int32)) x0) (fun (σ6 : tw_Sg) =>
tw_lt (1 : Int32) (fun (v7 : Int32) =>
tw_lt (0 : Int32) (fun (v8 : Int32) =>
tw_lp (fun (k10 : (Int32 × Int32 × tw_Sg) → Option (tw_Sg)) (a9 : Int32 × Int32 × tw_Sg) =>
if a9.1 ≤ a9.2.1 then (some a9.2.2)
else (tw_lt (0 : Int32) (fun (v11 : Int32) =>
tw_lp (fun (k13 : (Int32 × Int32 × Int32 × tw_Sg) → Option (tw_Sg)) (a12 : Int32 × Int32 × Int32 × tw_Sg) =>
if (8 : Int32) ≤ a12.2.2.1 then (tw_lt (a12.2.1 + (1 : Int32)) (fun (v14 : Int32) =>
k10 (a12.1, v14, a12.2.2.2)))
else (tw_ck (tw_ok a12.2.1 (tw_ln 509)) (
tw_bd (tw_P_X12_neighbour (a12.2.2.2 509 (Int32.toNatClampNeg a12.2.1)) a12.2.2.1 a12.2.2.2) (fun r15 =>
tw_lt r15 (fun (v16 : Int32) =>
tw_jn (fun (a17 : Int32 × tw_Sg) =>
tw_lt (a12.2.2.1 + (1 : Int32)) (fun (v19 : Int32) =>
k13 (a17.1, a12.2.1, v19, a17.2))) (fun (j18 : (Int32 × tw_Sg) → Option (tw_Sg)) =>
if v16 = (-1 : Int32) then (j18 (a12.1, a12.2.2.2))
else (tw_ck (tw_ok v16 (tw_ln 508)) (
if (a12.2.2.2 508 (Int32.toNatClampNeg v16)) = (-1 : Int32) then (tw_ck (tw_ok a12.2.1 (tw_ln 509)) (
tw_ck (tw_ok (a12.2.2.2 509 (Int32.toNatClampNeg a12.2.1)) (tw_ln 508)) (
tw_ck (tw_ok v16 (tw_ln 508)) (tw_lt (tw_up a12.2.2.2 508 (Int32.toNatClampNeg v16) ((a12.2.2.2 508 (Int32.toNatClampNeg (a12.2.2.2 509 (Int32.toNatClampNeg a12.2.1)))) + (1 : Int32))) (fun (σ20 : tw_Sg) =>
tw_ck (tw_ok a12.1 (tw_ln 509)) (tw_lt (tw_up σ20 509 (Int32.toNatClampNeg a12.1) v16) (fun (σ21 : tw_Sg) =>
tw_lt (a12.1 + (1 : Int32)) (fun (v22 : Int32) =>
j18 (v22, σ21)))))))))
else (j18 (a12.1, a12.2.2.2)))))))))) n (a9.1, a9.2.1, v11, a9.2.2)))) n (v7, v8, σ6))))))))
else (tw_ck (tw_ok a2.1 (tw_ln 508)) (tw_lt (tw_up a2.2 508 (Int32.toNatClampNeg a2.1) (-1 : Int32)) (fun (σ23 : tw_Sg) =>
tw_lt (a2.1 + (1 : Int32)) (fun (v24 : Int32) =>
k3 (v24, σ23))))))) n (v1, σ))
theorem tw_y_X12_layFar : tw_My yX12_layFar cX12_layFar 6 none 1 := ⟨List.mem_of_getElem? tw_w1651, List.mem_of_getElem? tw_w101, by decide +kernel, by decide +kernel, by decide +kernel⟩
theorem tw_v_X12_layFar : tw_Mv yX12_layFar "TreasureWalkModel" := ⟨List.mem_of_getElem? tw_w1650, List.mem_of_getElem? tw_w85, rfl⟩
set_option maxRecDepth 100000 in
set_option maxHeartbeats 4000000 in
theorem tw_m_X12_layFar {l : Launch} {B : Nat} {D : va_G} {C : Nat → ClassId} {S : Nat → Nat} {n : Nat} {x0 : Int32} {σ : tw_Sg}  {r : tw_Sg} (h : tw_P_X12_layFar n x0 σ = some r) : tw_Met l B D C S yX12_layFar cX12_layFar 6 none ({ frames := 2, cells := 0, slots := 0, locals := 46 } : Room) [.ref (B + 442), .int x0] σ (none) r := by
  refine tw_metOfP (tw_P_X12_layFar n x0 σ) r h (fun r => (none, r)) (by decide +kernel) (Nat.le_of_ble_eq_true rfl) ⟨rfl, rfl⟩ ?_
  intro z el eB eD eC eS hfr hlo hcs X hret hQ
  subst el eB eD eC eS
  have X : tw_X z cX12_layFar "TreasureWalkModel" 6 := X
  show tw_Rf z r _ σ 0 [(0, .ref (tw_zB z + 442)), (1, .int x0)] []
  unfold tw_P_X12_layFar
  refine r_iconst X dX12_layFar_0 (v := (0 : Int32)) (by decide) ?_
  refine r_istore_n X dX12_layFar_1 rfl (by decide) (LL := fun v1 => [(2, .int v1), (0, .ref (tw_zB z + 442)), (1, .int x0)]) (fun _ => rfl) (fun v1 => ?_)
  refine r_lp (α := Int32 × tw_Sg) (σJ := fun a2 => a2.2) (pcJ := 2) (LJ := fun a2 => [(2, .int a2.1), (0, .ref (tw_zB z + 442)), (1, .int x0)]) (stJ := fun a2 => []) (fun k3 hk3 a2 => ?_) n (v1, σ)
  refine r_iload_n X dX12_layFar_2 rfl 0 rfl ?_
  refine r_aload_n X dX12_layFar_3 rfl 1 rfl ?_
  refine r_bd (fun r4 hr4 => ?_)
  refine tw_c_X12_cells X dX12_layFar_4 _ tw_w1523  hr4 (tw_le hfr rfl) (tw_le hlo rfl) hcs (Nat.le_of_ble_eq_true rfl) trivial ?_
  refine r_icmp_ge X dX12_layFar_7 (tgt := 23) (by decide) ?_ ?_
  ·
    refine r_aload_n X dX12_layFar_23 rfl 1 rfl ?_
    refine tw_g12_24 (k := 442) (v := .ref (tw_zB z + 508)) X dX12_layFar_24 _ tw_w1276 tw_kc442 rfl ?_
    refine r_iload_n X dX12_layFar_27 rfl 2 rfl ?_
    refine r_iconst X dX12_layFar_28 (v := (0 : Int32)) (by decide) ?_
    refine r_iast (k := 508) X dX12_layFar_29 tw_kc508 (fun σ5 => ?_)
    refine r_aload_n X dX12_layFar_30 rfl 1 rfl ?_
    refine tw_g12_25 (k := 442) (v := .ref (tw_zB z + 509)) X dX12_layFar_31 _ tw_w1277 tw_kc442 rfl ?_
    refine r_iconst X dX12_layFar_34 (v := (0 : Int32)) (by decide) ?_
    refine r_iload_n X dX12_layFar_35 rfl 2 rfl ?_
    refine r_iast (k := 509) X dX12_layFar_36 tw_kc509 (fun σ6 => ?_)
    refine r_iconst X dX12_layFar_37 (v := (1 : Int32)) (by decide) ?_
    refine r_istore_n X dX12_layFar_38 rfl (by decide) (LL := fun v7 => [(2, .int v7), (0, .ref (tw_zB z + 442)), (1, .int x0)]) (fun _ => rfl) (fun v7 => ?_)
    refine r_iconst X dX12_layFar_39 (v := (0 : Int32)) (by decide) ?_
    refine r_istore_n X dX12_layFar_40 rfl (by decide) (LL := fun v8 => [(3, .int v8), (2, .int v7), (0, .ref (tw_zB z + 442)), (1, .int x0)]) (fun _ => rfl) (fun v8 => ?_)
    refine tw_Rf.sub [0, 1, 2] rfl ?_
    refine r_lp (α := Int32 × Int32 × tw_Sg) (σJ := fun a9 => a9.2.2) (pcJ := 41) (LJ := fun a9 => [(3, .int a9.2.1), (2, .int a9.1), (0, .ref (tw_zB z + 442))]) (stJ := fun a9 => []) (fun k10 hk10 a9 => ?_) n (v7, v8, σ6)
    refine r_iload_n X dX12_layFar_41 rfl 0 rfl ?_
    refine r_iload_n X dX12_layFar_42 rfl 1 rfl ?_
    refine r_icmp_ge X dX12_layFar_43 (tgt := 133) (by decide) ?_ ?_
    ·
      exact r_vret X dX12_layFar_133 hret hQ rfl
    ·
      refine r_iconst X dX12_layFar_46 (v := (0 : Int32)) (by decide) ?_
      refine r_istore X dX12_layFar_47 (by decide) (LL := fun v11 => [(4, .int v11), (3, .int a9.2.1), (2, .int a9.1), (0, .ref (tw_zB z + 442))]) (fun _ => rfl) (fun v11 => ?_)
      refine r_lp (α := Int32 × Int32 × Int32 × tw_Sg) (σJ := fun a12 => a12.2.2.2) (pcJ := 49) (LJ := fun a12 => [(4, .int a12.2.2.1), (3, .int a12.2.1), (2, .int a12.1), (0, .ref (tw_zB z + 442))]) (stJ := fun a12 => []) (fun k13 hk13 a12 => ?_) n (a9.1, a9.2.1, v11, a9.2.2)
      refine r_iload X dX12_layFar_49 0 rfl ?_
      refine r_bipush X dX12_layFar_51 (v := (8 : Int32)) (by decide) ?_
      refine r_icmp_ge X dX12_layFar_53 (tgt := 127) (by decide) ?_ ?_
      ·
        refine r_iinc X dX12_layFar_127 1 rfl (v := (1 : Int32)) (by decide) (by decide) (LL := fun v14 => [(3, .int v14), (4, .int a12.2.2.1), (2, .int a12.1), (0, .ref (tw_zB z + 442))]) (fun _ => rfl) (fun v14 => ?_)
        refine r_goto X dX12_layFar_130 (tgt := 41) (by decide) ?_
        exact tw_Rf.sub [0, 2, 3] rfl (hk10 (a12.1, v14, a12.2.2.2))
      ·
        refine r_aload_n X dX12_layFar_56 rfl 3 rfl ?_
        refine r_aload_n X dX12_layFar_57 rfl 3 rfl ?_
        refine tw_g12_25 (k := 442) (v := .ref (tw_zB z + 509)) X dX12_layFar_58 _ tw_w1277 tw_kc442 rfl ?_
        refine r_iload_n X dX12_layFar_61 rfl 1 rfl ?_
        refine r_iald (k := 509) X dX12_layFar_62 tw_kc509 ?_
        refine r_iload X dX12_layFar_63 0 rfl ?_
        refine r_bd (fun r15 hr15 => ?_)
        refine tw_c_X12_neighbour X dX12_layFar_65 _ tw_w1566  hr15 (tw_le hfr rfl) (tw_le hlo rfl) hcs (Nat.le_of_ble_eq_true rfl) trivial ?_
        refine r_istore X dX12_layFar_68 (by decide) (LL := fun v16 => [(5, .int v16), (4, .int a12.2.2.1), (3, .int a12.2.1), (2, .int a12.1), (0, .ref (tw_zB z + 442))]) (fun _ => rfl) (fun v16 => ?_)
        refine r_iload X dX12_layFar_70 0 rfl ?_
        refine r_iconst X dX12_layFar_72 (v := (-1 : Int32)) (by decide) ?_
        refine r_jn (α := Int32 × tw_Sg) (σJ := fun a17 => a17.2) (pcJ := 121) (LJ := fun a17 => [(4, .int a12.2.2.1), (3, .int a12.2.1), (2, .int a17.1), (0, .ref (tw_zB z + 442))]) (stJ := fun a17 => []) (ok := fun a17 => True) (fun a17 hoka17 => ?_) (fun j18 hj18 => ?_)
        ·
          refine r_iinc X dX12_layFar_121 0 rfl (v := (1 : Int32)) (by decide) (by decide) (LL := fun v19 => [(4, .int v19), (3, .int a12.2.1), (2, .int a17.1), (0, .ref (tw_zB z + 442))]) (fun _ => rfl) (fun v19 => ?_)
          refine r_goto X dX12_layFar_124 (tgt := 49) (by decide) ?_
          exact hk13 (a17.1, a12.2.1, v19, a17.2)
        refine r_icmp_eq X dX12_layFar_73 (tgt := 121) (by decide) ?_ ?_
        ·
          exact tw_Rf.sub [1, 2, 3, 4] rfl (hj18 (a12.1, a12.2.2.2) trivial)
        ·
          refine r_aload_n X dX12_layFar_76 rfl 4 rfl ?_
          refine tw_g12_24 (k := 442) (v := .ref (tw_zB z + 508)) X dX12_layFar_77 _ tw_w1276 tw_kc442 rfl ?_
          refine r_iload X dX12_layFar_80 0 rfl ?_
          refine r_iald (k := 508) X dX12_layFar_82 tw_kc508 ?_
          refine r_iconst X dX12_layFar_83 (v := (-1 : Int32)) (by decide) ?_
          refine r_icmp_eq X dX12_layFar_84 (tgt := 90) (by decide) ?_ ?_
          ·
            refine r_aload_n X dX12_layFar_90 rfl 4 rfl ?_
            refine tw_g12_24 (k := 442) (v := .ref (tw_zB z + 508)) X dX12_layFar_91 _ tw_w1276 tw_kc442 rfl ?_
            refine r_iload X dX12_layFar_94 0 rfl ?_
            refine r_aload_n X dX12_layFar_96 rfl 4 rfl ?_
            refine tw_g12_24 (k := 442) (v := .ref (tw_zB z + 508)) X dX12_layFar_97 _ tw_w1276 tw_kc442 rfl ?_
            refine r_aload_n X dX12_layFar_100 rfl 4 rfl ?_
            refine tw_g12_25 (k := 442) (v := .ref (tw_zB z + 509)) X dX12_layFar_101 _ tw_w1277 tw_kc442 rfl ?_
            refine r_iload_n X dX12_layFar_104 rfl 2 rfl ?_
            refine r_iald (k := 509) X dX12_layFar_105 tw_kc509 ?_
            refine r_iald (k := 508) X dX12_layFar_106 tw_kc508 ?_
            refine r_iconst X dX12_layFar_107 (v := (1 : Int32)) (by decide) ?_
            refine r_iadd X dX12_layFar_108 ?_
            refine r_iast (k := 508) X dX12_layFar_109 tw_kc508 (fun σ20 => ?_)
            refine r_aload_n X dX12_layFar_110 rfl 4 rfl ?_
            refine tw_g12_25 (k := 442) (v := .ref (tw_zB z + 509)) X dX12_layFar_111 _ tw_w1277 tw_kc442 rfl ?_
            refine r_iload_n X dX12_layFar_114 rfl 3 rfl ?_
            refine r_iload X dX12_layFar_115 0 rfl ?_
            refine r_iast (k := 509) X dX12_layFar_117 tw_kc509 (fun σ21 => ?_)
            refine r_iinc X dX12_layFar_118 3 rfl (v := (1 : Int32)) (by decide) (by decide) (LL := fun v22 => [(2, .int v22), (5, .int v16), (4, .int a12.2.2.1), (3, .int a12.2.1), (0, .ref (tw_zB z + 442))]) (fun _ => rfl) (fun v22 => ?_)
            exact tw_Rf.sub [2, 3, 0, 4] rfl (hj18 (v22, σ21) trivial)
          ·
            refine r_goto X dX12_layFar_87 (tgt := 121) (by decide) ?_
            exact tw_Rf.sub [1, 2, 3, 4] rfl (hj18 (a12.1, a12.2.2.2) trivial)
  ·
    refine r_aload_n X dX12_layFar_10 rfl 1 rfl ?_
    refine tw_g12_24 (k := 442) (v := .ref (tw_zB z + 508)) X dX12_layFar_11 _ tw_w1276 tw_kc442 rfl ?_
    refine r_iload_n X dX12_layFar_14 rfl 0 rfl ?_
    refine r_iconst X dX12_layFar_15 (v := (-1 : Int32)) (by decide) ?_
    refine r_iast (k := 508) X dX12_layFar_16 tw_kc508 (fun σ23 => ?_)
    refine r_iinc X dX12_layFar_17 0 rfl (v := (1 : Int32)) (by decide) (by decide) (LL := fun v24 => [(2, .int v24), (0, .ref (tw_zB z + 442)), (1, .int x0)]) (fun _ => rfl) (fun v24 => ?_)
    refine r_goto X dX12_layFar_20 (tgt := 2) (by decide) ?_
    exact hk3 (v24, σ23)
theorem tw_c_X12_layFar {ρ : Type} {z : tw_Z} {cc : ByteArray} {own : String} {nL pc : Nat} {σ : tw_Sg} {L : List (Nat × Value)} {st : List Value} {ix : Nat} {n : Nat} {x0 : Int32} (X : tw_X z cc own nL) (d : decode cc pc = .ok (.invokevirtual ix, 3)) (i : Nat) (hi : lw_tbl[i]? = some (.methodLink own ix yX12_layFar))  {res : ρ} {E : Option ρ} {r : tw_Sg} (h : tw_P_X12_layFar n x0 σ = some r) (h1 : 3 ≤ (tw_zR z).frames) (h2 : 71 ≤ (tw_zR z).locals) (hcs : tw_zcells z ≤ (tw_zR z).cells ∧ tw_zslots z ≤ (tw_zR z).slots) (hst : (st.map fun v => v.category).sum ≤ 8) (_ : True) (kk : tw_Rf z res E r (pc + 3) L (st)) : tw_Rf z res E σ pc L (.int x0 :: .ref (tw_zB z + 442) :: st) := r_callV (As := [.int x0]) X d (tw_m_X12_layFar  h) tw_y_X12_layFar tw_v_X12_layFar i hi rfl (tw_kd_lt tw_kc442 (by decide)) (tw_E12 tw_kc442) rfl ⟨rfl, rfl, h1, h2⟩ hcs hst rfl kk
def tw_P_X12_layParts (n : Nat)  (σ : tw_Sg) : Option (Int32 × tw_Sg) :=
tw_lt (0 : Int32) (fun (v1 : Int32) =>
tw_lt (0 : Int32) (fun (v2 : Int32) =>
tw_lp (fun (k4 : (Int32 × tw_Sg) → Option (Int32 × tw_Sg)) (a3 : Int32 × tw_Sg) =>
tw_bd (tw_P_X12_cells a3.2) (fun r5 =>
if r5 ≤ a3.1 then (tw_lt (0 : Int32) (fun (v6 : Int32) =>
tw_lp (fun (k8 : (Int32 × Int32 × tw_Sg) → Option (Int32 × tw_Sg)) (a7 : Int32 × Int32 × tw_Sg) =>
tw_bd (tw_P_X12_cells a7.2.2) (fun r9 =>
if r9 ≤ a7.2.1 then (some (a7.1, a7.2.2))
else (tw_bd (tw_P_X12_isLeft n a7.2.1 a7.2.2) (fun r10 =>
tw_jn (fun (a11 : Int32 × Int32 × tw_Sg) =>
tw_lt (a11.2.1 + (1 : Int32)) (fun (v13 : Int32) =>
k8 (a11.1, v13, a11.2.2))) (fun (j12 : (Int32 × Int32 × tw_Sg) → Option (Int32 × tw_Sg)) =>
if r10.1 = 0 then (j12 (a7.1, a7.2.1, r10.2))
else (tw_ck (tw_ok a7.2.1 (tw_ln 510)) (
if (r10.2 510 (Int32.toNatClampNeg a7.2.1)) = (-1 : Int32) then (tw_ck (tw_ok a7.2.1 (tw_ln 510)) (tw_lt (tw_up r10.2 510 (Int32.toNatClampNeg a7.2.1) a7.1) (fun (σ14 : tw_Sg) =>
tw_ck (tw_ok (0 : Int32) (tw_ln 509)) (tw_lt (tw_up σ14 509 (Int32.toNatClampNeg (0 : Int32)) a7.2.1) (fun (σ15 : tw_Sg) =>
tw_lt (1 : Int32) (fun (v16 : Int32) =>
tw_lt (0 : Int32) (fun (v17 : Int32) =>
tw_lp (fun (k19 : (Int32 × Int32 × Int32 × Int32 × tw_Sg) → Option (Int32 × tw_Sg)) (a18 : Int32 × Int32 × Int32 × Int32 × tw_Sg) =>
if a18.2.2.1 ≤ a18.2.2.2.1 then (tw_lt (a18.1 + (1 : Int32)) (fun (v20 : Int32) =>
j12 (v20, a18.2.1, a18.2.2.2.2)))
else (tw_lt (0 : Int32) (fun (v21 : Int32) =>
tw_lp (fun (k23 : (Int32 × Int32 × Int32 × Int32 × Int32 × tw_Sg) → Option (Int32 × tw_Sg)) (a22 : Int32 × Int32 × Int32 × Int32 × Int32 × tw_Sg) =>
if (8 : Int32) ≤ a22.2.2.2.2.1 then (tw_lt (a22.2.2.2.1 + (1 : Int32)) (fun (v24 : Int32) =>
k19 (a22.1, a22.2.1, a22.2.2.1, v24, a22.2.2.2.2.2)))
else (tw_ck (tw_ok a22.2.2.2.1 (tw_ln 509)) (
tw_bd (tw_P_X12_neighbour (a22.2.2.2.2.2 509 (Int32.toNatClampNeg a22.2.2.2.1)) a22.2.2.2.2.1 a22.2.2.2.2.2) (fun r25 =>
tw_lt r25 (fun (v26 : Int32) =>
tw_jn (fun (a27 : Int32 × tw_Sg) =>
tw_lt (a22.2.2.2.2.1 + (1 : Int32)) (fun (v29 : Int32) =>
k23 (a22.1, a22.2.1, a27.1, a22.2.2.2.1, v29, a27.2))) (fun (j28 : (Int32 × tw_Sg) → Option (Int32 × tw_Sg)) =>
if v26 = (-1 : Int32) then (j28 (a22.2.2.1, a22.2.2.2.2.2))
else (tw_ck (tw_ok v26 (tw_ln 510)) (
if ¬ (a22.2.2.2.2.2 510 (Int32.toNatClampNeg v26)) = (-1 : Int32) then (j28 (a22.2.2.1, a22.2.2.2.2.2))
else (tw_bd (tw_P_X12_isLeft n v26 a22.2.2.2.2.2) (fun r30 =>
if ¬ r30.1 = 0 then (tw_ck (tw_ok v26 (tw_ln 510)) (tw_lt (tw_up r30.2 510 (Int32.toNatClampNeg v26) a22.1) (fun (σ31 : tw_Sg) =>
tw_ck (tw_ok a22.2.2.1 (tw_ln 509)) (tw_lt (tw_up σ31 509 (Int32.toNatClampNeg a22.2.2.1) v26) (fun (σ32 : tw_Sg) =>
tw_lt (a22.2.2.1 + (1 : Int32)) (fun (v33 : Int32) =>
j28 (v33, σ32)))))))
else (j28 (a22.2.2.1, r30.2)))))))))))) n (a18.1, a18.2.1, a18.2.2.1, a18.2.2.2.1, v21, a18.2.2.2.2)))) n (a7.1, a7.2.1, v16, v17, σ15))))))))
else (j12 (a7.1, a7.2.1, r10.2))))))))) n (v1, v6, a3.2)))
else (tw_ck (tw_ok a3.1 (tw_ln 510)) (tw_lt (tw_up a3.2 510 (Int32.toNatClampNeg a3.1) (-1 : Int32)) (fun (σ34 : tw_Sg) =>
tw_lt (a3.1 + (1 : Int32)) (fun (v35 : Int32) =>
k4 (v35, σ34))))))) n (v2, σ)))
theorem tw_y_X12_layParts : tw_My yX12_layParts cX12_layParts 7 (some .int) 0 := ⟨List.mem_of_getElem? tw_w1591, List.mem_of_getElem? tw_w101, by decide +kernel, by decide +kernel, by decide +kernel⟩
theorem tw_v_X12_layParts : tw_Mv yX12_layParts "TreasureWalkModel" := ⟨List.mem_of_getElem? tw_w1590, List.mem_of_getElem? tw_w78, rfl⟩
set_option maxRecDepth 100000 in
set_option maxHeartbeats 4000000 in
theorem tw_m_X12_layParts {l : Launch} {B : Nat} {D : va_G} {C : Nat → ClassId} {S : Nat → Nat} {n : Nat}  {σ : tw_Sg}  {r : Int32 × tw_Sg} (h : tw_P_X12_layParts n σ = some r) : tw_Met l B D C S yX12_layParts cX12_layParts 7 (some .int) ({ frames := 9, cells := 0, slots := 0, locals := 215 } : Room) [.ref (B + 442)] σ (some (.int r.1)) r.2 := by
  refine tw_metOfP (tw_P_X12_layParts n σ) r h (fun r => (some (.int r.1), r.2)) (by decide +kernel) (Nat.le_of_ble_eq_true rfl) ⟨rfl, rfl⟩ ?_
  intro z el eB eD eC eS hfr hlo hcs X hret hQ
  subst el eB eD eC eS
  have X : tw_X z cX12_layParts "TreasureWalkModel" 7 := X
  show tw_Rf z r _ σ 0 [(0, .ref (tw_zB z + 442))] []
  unfold tw_P_X12_layParts
  refine r_iconst X dX12_layParts_0 (v := (0 : Int32)) (by decide) ?_
  refine r_istore_n X dX12_layParts_1 rfl (by decide) (LL := fun v1 => [(1, .int v1), (0, .ref (tw_zB z + 442))]) (fun _ => rfl) (fun v1 => ?_)
  refine r_iconst X dX12_layParts_2 (v := (0 : Int32)) (by decide) ?_
  refine r_istore_n X dX12_layParts_3 rfl (by decide) (LL := fun v2 => [(2, .int v2), (1, .int v1), (0, .ref (tw_zB z + 442))]) (fun _ => rfl) (fun v2 => ?_)
  refine r_lp (α := Int32 × tw_Sg) (σJ := fun a3 => a3.2) (pcJ := 4) (LJ := fun a3 => [(2, .int a3.1), (1, .int v1), (0, .ref (tw_zB z + 442))]) (stJ := fun a3 => []) (fun k4 hk4 a3 => ?_) n (v2, σ)
  refine r_iload_n X dX12_layParts_4 rfl 0 rfl ?_
  refine r_aload_n X dX12_layParts_5 rfl 2 rfl ?_
  refine r_bd (fun r5 hr5 => ?_)
  refine tw_c_X12_cells X dX12_layParts_6 _ tw_w1523  hr5 (tw_le hfr rfl) (tw_le hlo rfl) hcs (Nat.le_of_ble_eq_true rfl) trivial ?_
  refine r_icmp_ge X dX12_layParts_9 (tgt := 25) (by decide) ?_ ?_
  ·
    refine r_iconst X dX12_layParts_25 (v := (0 : Int32)) (by decide) ?_
    refine r_istore_n X dX12_layParts_26 rfl (by decide) (LL := fun v6 => [(2, .int v6), (1, .int v1), (0, .ref (tw_zB z + 442))]) (fun _ => rfl) (fun v6 => ?_)
    refine r_lp (α := Int32 × Int32 × tw_Sg) (σJ := fun a7 => a7.2.2) (pcJ := 27) (LJ := fun a7 => [(2, .int a7.2.1), (1, .int a7.1), (0, .ref (tw_zB z + 442))]) (stJ := fun a7 => []) (fun k8 hk8 a7 => ?_) n (v1, v6, a3.2)
    refine r_iload_n X dX12_layParts_27 rfl 0 rfl ?_
    refine r_aload_n X dX12_layParts_28 rfl 2 rfl ?_
    refine r_bd (fun r9 hr9 => ?_)
    refine tw_c_X12_cells X dX12_layParts_29 _ tw_w1523  hr9 (tw_le hfr rfl) (tw_le hlo rfl) hcs (Nat.le_of_ble_eq_true rfl) trivial ?_
    refine r_icmp_ge X dX12_layParts_32 (tgt := 175) (by decide) ?_ ?_
    ·
      refine r_iload_n X dX12_layParts_175 rfl 1 rfl ?_
      exact r_iret X dX12_layParts_176 hret hQ rfl
    ·
      refine r_aload_n X dX12_layParts_35 rfl 2 rfl ?_
      refine r_iload_n X dX12_layParts_36 rfl 0 rfl ?_
      refine r_bd (fun r10 hr10 => ?_)
      refine tw_c_X12_isLeft X dX12_layParts_37 _ tw_w1584  hr10 (tw_le hfr rfl) (tw_le hlo rfl) hcs (Nat.le_of_ble_eq_true rfl) trivial ?_
      refine r_jn (α := Int32 × Int32 × tw_Sg) (σJ := fun a11 => a11.2.2) (pcJ := 169) (LJ := fun a11 => [(2, .int a11.2.1), (1, .int a11.1), (0, .ref (tw_zB z + 442))]) (stJ := fun a11 => []) (ok := fun a11 => True) (fun a11 hoka11 => ?_) (fun j12 hj12 => ?_)
      ·
        refine r_iinc X dX12_layParts_169 0 rfl (v := (1 : Int32)) (by decide) (by decide) (LL := fun v13 => [(2, .int v13), (1, .int a11.1), (0, .ref (tw_zB z + 442))]) (fun _ => rfl) (fun v13 => ?_)
        refine r_goto X dX12_layParts_172 (tgt := 27) (by decide) ?_
        exact hk8 (a11.1, v13, a11.2.2)
      refine r_if_eq X dX12_layParts_40 (tgt := 169) (by decide) ?_ ?_
      ·
        exact hj12 (a7.1, a7.2.1, r10.2) trivial
      ·
        refine r_aload_n X dX12_layParts_43 rfl 2 rfl ?_
        refine tw_g12_26 (k := 442) (v := .ref (tw_zB z + 510)) X dX12_layParts_44 _ tw_w1278 tw_kc442 rfl ?_
        refine r_iload_n X dX12_layParts_47 rfl 0 rfl ?_
        refine r_iald (k := 510) X dX12_layParts_48 tw_kc510 ?_
        refine r_iconst X dX12_layParts_49 (v := (-1 : Int32)) (by decide) ?_
        refine r_icmp_eq X dX12_layParts_50 (tgt := 56) (by decide) ?_ ?_
        ·
          refine r_aload_n X dX12_layParts_56 rfl 2 rfl ?_
          refine tw_g12_26 (k := 442) (v := .ref (tw_zB z + 510)) X dX12_layParts_57 _ tw_w1278 tw_kc442 rfl ?_
          refine r_iload_n X dX12_layParts_60 rfl 0 rfl ?_
          refine r_iload_n X dX12_layParts_61 rfl 1 rfl ?_
          refine r_iast (k := 510) X dX12_layParts_62 tw_kc510 (fun σ14 => ?_)
          refine r_aload_n X dX12_layParts_63 rfl 2 rfl ?_
          refine tw_g12_25 (k := 442) (v := .ref (tw_zB z + 509)) X dX12_layParts_64 _ tw_w1277 tw_kc442 rfl ?_
          refine r_iconst X dX12_layParts_67 (v := (0 : Int32)) (by decide) ?_
          refine r_iload_n X dX12_layParts_68 rfl 0 rfl ?_
          refine r_iast (k := 509) X dX12_layParts_69 tw_kc509 (fun σ15 => ?_)
          refine r_iconst X dX12_layParts_70 (v := (1 : Int32)) (by decide) ?_
          refine r_istore_n X dX12_layParts_71 rfl (by decide) (LL := fun v16 => [(3, .int v16), (2, .int a7.2.1), (1, .int a7.1), (0, .ref (tw_zB z + 442))]) (fun _ => rfl) (fun v16 => ?_)
          refine r_iconst X dX12_layParts_72 (v := (0 : Int32)) (by decide) ?_
          refine r_istore X dX12_layParts_73 (by decide) (LL := fun v17 => [(4, .int v17), (3, .int v16), (2, .int a7.2.1), (1, .int a7.1), (0, .ref (tw_zB z + 442))]) (fun _ => rfl) (fun v17 => ?_)
          refine r_lp (α := Int32 × Int32 × Int32 × Int32 × tw_Sg) (σJ := fun a18 => a18.2.2.2.2) (pcJ := 75) (LJ := fun a18 => [(4, .int a18.2.2.2.1), (3, .int a18.2.2.1), (2, .int a18.2.1), (1, .int a18.1), (0, .ref (tw_zB z + 442))]) (stJ := fun a18 => []) (fun k19 hk19 a18 => ?_) n (a7.1, a7.2.1, v16, v17, σ15)
          refine r_iload X dX12_layParts_75 0 rfl ?_
          refine r_iload_n X dX12_layParts_77 rfl 1 rfl ?_
          refine r_icmp_ge X dX12_layParts_78 (tgt := 166) (by decide) ?_ ?_
          ·
            refine r_iinc X dX12_layParts_166 3 rfl (v := (1 : Int32)) (by decide) (by decide) (LL := fun v20 => [(1, .int v20), (4, .int a18.2.2.2.1), (3, .int a18.2.2.1), (2, .int a18.2.1), (0, .ref (tw_zB z + 442))]) (fun _ => rfl) (fun v20 => ?_)
            exact tw_Rf.sub [3, 0, 4] rfl (hj12 (v20, a18.2.1, a18.2.2.2.2) trivial)
          ·
            refine r_iconst X dX12_layParts_81 (v := (0 : Int32)) (by decide) ?_
            refine r_istore X dX12_layParts_82 (by decide) (LL := fun v21 => [(5, .int v21), (4, .int a18.2.2.2.1), (3, .int a18.2.2.1), (2, .int a18.2.1), (1, .int a18.1), (0, .ref (tw_zB z + 442))]) (fun _ => rfl) (fun v21 => ?_)
            refine r_lp (α := Int32 × Int32 × Int32 × Int32 × Int32 × tw_Sg) (σJ := fun a22 => a22.2.2.2.2.2) (pcJ := 84) (LJ := fun a22 => [(5, .int a22.2.2.2.2.1), (4, .int a22.2.2.2.1), (3, .int a22.2.2.1), (2, .int a22.2.1), (1, .int a22.1), (0, .ref (tw_zB z + 442))]) (stJ := fun a22 => []) (fun k23 hk23 a22 => ?_) n (a18.1, a18.2.1, a18.2.2.1, a18.2.2.2.1, v21, a18.2.2.2.2)
            refine r_iload X dX12_layParts_84 0 rfl ?_
            refine r_bipush X dX12_layParts_86 (v := (8 : Int32)) (by decide) ?_
            refine r_icmp_ge X dX12_layParts_88 (tgt := 160) (by decide) ?_ ?_
            ·
              refine r_iinc X dX12_layParts_160 1 rfl (v := (1 : Int32)) (by decide) (by decide) (LL := fun v24 => [(4, .int v24), (5, .int a22.2.2.2.2.1), (3, .int a22.2.2.1), (2, .int a22.2.1), (1, .int a22.1), (0, .ref (tw_zB z + 442))]) (fun _ => rfl) (fun v24 => ?_)
              refine r_goto X dX12_layParts_163 (tgt := 75) (by decide) ?_
              exact tw_Rf.sub [0, 2, 3, 4, 5] rfl (hk19 (a22.1, a22.2.1, a22.2.2.1, v24, a22.2.2.2.2.2))
            ·
              refine r_aload_n X dX12_layParts_91 rfl 5 rfl ?_
              refine r_aload_n X dX12_layParts_92 rfl 5 rfl ?_
              refine tw_g12_25 (k := 442) (v := .ref (tw_zB z + 509)) X dX12_layParts_93 _ tw_w1277 tw_kc442 rfl ?_
              refine r_iload X dX12_layParts_96 1 rfl ?_
              refine r_iald (k := 509) X dX12_layParts_98 tw_kc509 ?_
              refine r_iload X dX12_layParts_99 0 rfl ?_
              refine r_bd (fun r25 hr25 => ?_)
              refine tw_c_X12_neighbour X dX12_layParts_101 _ tw_w1566  hr25 (tw_le hfr rfl) (tw_le hlo rfl) hcs (Nat.le_of_ble_eq_true rfl) trivial ?_
              refine r_istore X dX12_layParts_104 (by decide) (LL := fun v26 => [(6, .int v26), (5, .int a22.2.2.2.2.1), (4, .int a22.2.2.2.1), (3, .int a22.2.2.1), (2, .int a22.2.1), (1, .int a22.1), (0, .ref (tw_zB z + 442))]) (fun _ => rfl) (fun v26 => ?_)
              refine r_iload X dX12_layParts_106 0 rfl ?_
              refine r_iconst X dX12_layParts_108 (v := (-1 : Int32)) (by decide) ?_
              refine r_jn (α := Int32 × tw_Sg) (σJ := fun a27 => a27.2) (pcJ := 154) (LJ := fun a27 => [(5, .int a22.2.2.2.2.1), (4, .int a22.2.2.2.1), (3, .int a27.1), (2, .int a22.2.1), (1, .int a22.1), (0, .ref (tw_zB z + 442))]) (stJ := fun a27 => []) (ok := fun a27 => True) (fun a27 hoka27 => ?_) (fun j28 hj28 => ?_)
              ·
                refine r_iinc X dX12_layParts_154 0 rfl (v := (1 : Int32)) (by decide) (by decide) (LL := fun v29 => [(5, .int v29), (4, .int a22.2.2.2.1), (3, .int a27.1), (2, .int a22.2.1), (1, .int a22.1), (0, .ref (tw_zB z + 442))]) (fun _ => rfl) (fun v29 => ?_)
                refine r_goto X dX12_layParts_157 (tgt := 84) (by decide) ?_
                exact hk23 (a22.1, a22.2.1, a27.1, a22.2.2.2.1, v29, a27.2)
              refine r_icmp_eq X dX12_layParts_109 (tgt := 154) (by decide) ?_ ?_
              ·
                exact tw_Rf.sub [1, 2, 3, 4, 5, 6] rfl (hj28 (a22.2.2.1, a22.2.2.2.2.2) trivial)
              ·
                refine r_aload_n X dX12_layParts_112 rfl 6 rfl ?_
                refine tw_g12_26 (k := 442) (v := .ref (tw_zB z + 510)) X dX12_layParts_113 _ tw_w1278 tw_kc442 rfl ?_
                refine r_iload X dX12_layParts_116 0 rfl ?_
                refine r_iald (k := 510) X dX12_layParts_118 tw_kc510 ?_
                refine r_iconst X dX12_layParts_119 (v := (-1 : Int32)) (by decide) ?_
                refine r_icmp_ne X dX12_layParts_120 (tgt := 154) (by decide) ?_ ?_
                ·
                  exact tw_Rf.sub [1, 2, 3, 4, 5, 6] rfl (hj28 (a22.2.2.1, a22.2.2.2.2.2) trivial)
                ·
                  refine r_aload_n X dX12_layParts_123 rfl 6 rfl ?_
                  refine r_iload X dX12_layParts_124 0 rfl ?_
                  refine r_bd (fun r30 hr30 => ?_)
                  refine tw_c_X12_isLeft X dX12_layParts_126 _ tw_w1584  hr30 (tw_le hfr rfl) (tw_le hlo rfl) hcs (Nat.le_of_ble_eq_true rfl) trivial ?_
                  refine r_if_ne X dX12_layParts_129 (tgt := 135) (by decide) ?_ ?_
                  ·
                    refine r_aload_n X dX12_layParts_135 rfl 6 rfl ?_
                    refine tw_g12_26 (k := 442) (v := .ref (tw_zB z + 510)) X dX12_layParts_136 _ tw_w1278 tw_kc442 rfl ?_
                    refine r_iload X dX12_layParts_139 0 rfl ?_
                    refine r_iload_n X dX12_layParts_141 rfl 5 rfl ?_
                    refine r_iast (k := 510) X dX12_layParts_142 tw_kc510 (fun σ31 => ?_)
                    refine r_aload_n X dX12_layParts_143 rfl 6 rfl ?_
                    refine tw_g12_25 (k := 442) (v := .ref (tw_zB z + 509)) X dX12_layParts_144 _ tw_w1277 tw_kc442 rfl ?_
                    refine r_iload_n X dX12_layParts_147 rfl 3 rfl ?_
                    refine r_iload X dX12_layParts_148 0 rfl ?_
                    refine r_iast (k := 509) X dX12_layParts_150 tw_kc509 (fun σ32 => ?_)
                    refine r_iinc X dX12_layParts_151 3 rfl (v := (1 : Int32)) (by decide) (by decide) (LL := fun v33 => [(3, .int v33), (6, .int v26), (5, .int a22.2.2.2.2.1), (4, .int a22.2.2.2.1), (2, .int a22.2.1), (1, .int a22.1), (0, .ref (tw_zB z + 442))]) (fun _ => rfl) (fun v33 => ?_)
                    exact tw_Rf.sub [2, 3, 0, 4, 5, 6] rfl (hj28 (v33, σ32) trivial)
                  ·
                    refine r_goto X dX12_layParts_132 (tgt := 154) (by decide) ?_
                    exact tw_Rf.sub [1, 2, 3, 4, 5, 6] rfl (hj28 (a22.2.2.1, r30.2) trivial)
        ·
          refine r_goto X dX12_layParts_53 (tgt := 169) (by decide) ?_
          exact hj12 (a7.1, a7.2.1, r10.2) trivial
  ·
    refine r_aload_n X dX12_layParts_12 rfl 2 rfl ?_
    refine tw_g12_26 (k := 442) (v := .ref (tw_zB z + 510)) X dX12_layParts_13 _ tw_w1278 tw_kc442 rfl ?_
    refine r_iload_n X dX12_layParts_16 rfl 0 rfl ?_
    refine r_iconst X dX12_layParts_17 (v := (-1 : Int32)) (by decide) ?_
    refine r_iast (k := 510) X dX12_layParts_18 tw_kc510 (fun σ34 => ?_)
    refine r_iinc X dX12_layParts_19 0 rfl (v := (1 : Int32)) (by decide) (by decide) (LL := fun v35 => [(2, .int v35), (1, .int v1), (0, .ref (tw_zB z + 442))]) (fun _ => rfl) (fun v35 => ?_)
    refine r_goto X dX12_layParts_22 (tgt := 4) (by decide) ?_
    exact hk4 (v35, σ34)
theorem tw_c_X12_layParts {ρ : Type} {z : tw_Z} {cc : ByteArray} {own : String} {nL pc : Nat} {σ : tw_Sg} {L : List (Nat × Value)} {st : List Value} {ix : Nat} {n : Nat}  (X : tw_X z cc own nL) (d : decode cc pc = .ok (.invokevirtual ix, 3)) (i : Nat) (hi : lw_tbl[i]? = some (.methodLink own ix yX12_layParts))  {res : ρ} {E : Option ρ} {r : Int32 × tw_Sg} (h : tw_P_X12_layParts n σ = some r) (h1 : 10 ≤ (tw_zR z).frames) (h2 : 241 ≤ (tw_zR z).locals) (hcs : tw_zcells z ≤ (tw_zR z).cells ∧ tw_zslots z ≤ (tw_zR z).slots) (hst : (st.map fun v => v.category).sum ≤ 8) (_ : True) (kk : tw_Rf z res E r.2 (pc + 3) L (.int r.1 :: st)) : tw_Rf z res E σ pc L (.ref (tw_zB z + 442) :: st) := r_callV (As := []) X d (tw_m_X12_layParts  h) tw_y_X12_layParts tw_v_X12_layParts i hi rfl (tw_kd_lt tw_kc442 (by decide)) (tw_E12 tw_kc442) rfl ⟨rfl, rfl, h1, h2⟩ hcs hst rfl kk
def tw_P_X12_noCell (x0 : Int32) (x1 : Int32) (σ : tw_Sg) : Option (Int32 × tw_Sg) :=
tw_ck (tw_ok (0 : Int32) (tw_ln 444)) (
tw_bd (tw_P_X12_in x0 (0 : Int32) ((σ 444 (Int32.toNatClampNeg (0 : Int32))) - (1 : Int32)) σ) (fun r1 =>
tw_jn (fun (a2 : Int32) =>
tw_bd (tw_P_X12_fails a2 (1 : Int32) σ) (fun r4 =>
tw_ck (tw_01 r4.1) (some (r4.1, r4.2)))) (fun (j3 : (Int32) → Option (Int32 × tw_Sg)) =>
tw_jn (fun (a5 : Unit) =>
j3 (1 : Int32)) (fun (j6 : (Unit) → Option (Int32 × tw_Sg)) =>
if r1 = 0 then (j6 ())
else (tw_ck (tw_ok (1 : Int32) (tw_ln 444)) (
tw_bd (tw_P_X12_in x1 (0 : Int32) ((σ 444 (Int32.toNatClampNeg (1 : Int32))) - (1 : Int32)) σ) (fun r7 =>
if ¬ r7 = 0 then (j3 (0 : Int32))
else (j6 ()))))))))
theorem tw_y_X12_noCell : tw_My yX12_noCell cX12_noCell 3 (some .boolean) 2 := ⟨List.mem_of_getElem? tw_w1599, List.mem_of_getElem? tw_w101, by decide +kernel, by decide +kernel, by decide +kernel⟩
theorem tw_v_X12_noCell : tw_Mv yX12_noCell "TreasureWalkModel" := ⟨List.mem_of_getElem? tw_w1598, List.mem_of_getElem? tw_w79, rfl⟩
set_option maxRecDepth 100000 in
set_option maxHeartbeats 4000000 in
theorem tw_m_X12_noCell {l : Launch} {B : Nat} {D : va_G} {C : Nat → ClassId} {S : Nat → Nat} {x0 : Int32} {x1 : Int32} {σ : tw_Sg}  {r : Int32 × tw_Sg} (h : tw_P_X12_noCell x0 x1 σ = some r) : tw_Met l B D C S yX12_noCell cX12_noCell 3 (some .boolean) ({ frames := 1, cells := 0, slots := 0, locals := 22 } : Room) [.ref (B + 442), .int x0, .int x1] σ (some (.int r.1)) r.2 := by
  refine tw_metOfP (tw_P_X12_noCell x0 x1 σ) r h (fun r => (some (.int r.1), r.2)) (by decide +kernel) (Nat.le_of_ble_eq_true rfl) ⟨rfl, rfl⟩ ?_
  intro z el eB eD eC eS hfr hlo hcs X hret hQ
  subst el eB eD eC eS
  have X : tw_X z cX12_noCell "TreasureWalkModel" 3 := X
  show tw_Rf z r _ σ 0 [(0, .ref (tw_zB z + 442)), (1, .int x0), (2, .int x1)] []
  unfold tw_P_X12_noCell
  refine r_aload_n X dX12_noCell_0 rfl 0 rfl ?_
  refine r_iload_n X dX12_noCell_1 rfl 1 rfl ?_
  refine r_iconst X dX12_noCell_2 (v := (0 : Int32)) (by decide) ?_
  refine r_aload_n X dX12_noCell_3 rfl 0 rfl ?_
  refine tw_g12_8 (k := 442) (v := .ref (tw_zB z + 444)) X dX12_noCell_4 _ tw_w1260 tw_kc442 rfl ?_
  refine r_iconst X dX12_noCell_7 (v := (0 : Int32)) (by decide) ?_
  refine r_iald (k := 444) X dX12_noCell_8 tw_kc444 ?_
  refine r_iconst X dX12_noCell_9 (v := (1 : Int32)) (by decide) ?_
  refine r_isub X dX12_noCell_10 ?_
  refine r_bd (fun r1 hr1 => ?_)
  refine tw_c_X12_in X dX12_noCell_11 _ tw_w1359  hr1 (tw_le hfr rfl) (tw_le hlo rfl) hcs (Nat.le_of_ble_eq_true rfl) trivial ?_
  refine r_jn (α := Int32) (σJ := fun a2 => σ) (pcJ := 38) (LJ := fun a2 => []) (stJ := fun a2 => [.int a2, .ref (tw_zB z + 442)]) (ok := fun a2 => True) (fun a2 hoka2 => ?_) (fun j3 hj3 => ?_)
  ·
    refine r_iconst X dX12_noCell_38 (v := (1 : Int32)) (by decide) ?_
    refine r_bd (fun r4 hr4 => ?_)
    refine tw_c_X12_fails X dX12_noCell_39 _ tw_w1362  hr4 (tw_le hfr rfl) (tw_le hlo rfl) hcs (Nat.le_of_ble_eq_true rfl) trivial ?_
    exact r_zret X dX12_noCell_42 hret hQ rfl
  refine r_jn (α := Unit) (σJ := fun a5 => σ) (pcJ := 33) (LJ := fun a5 => []) (stJ := fun a5 => [.ref (tw_zB z + 442)]) (ok := fun a5 => True) (fun a5 hoka5 => ?_) (fun j6 hj6 => ?_)
  ·
    refine r_iconst X dX12_noCell_33 (v := (1 : Int32)) (by decide) ?_
    refine r_goto X dX12_noCell_34 (tgt := 38) (by decide) ?_
    exact hj3 (1 : Int32) trivial
  refine r_if_eq X dX12_noCell_14 (tgt := 33) (by decide) ?_ ?_
  ·
    exact tw_Rf.sub [] rfl (hj6 () trivial)
  ·
    refine r_iload_n X dX12_noCell_17 rfl 2 rfl ?_
    refine r_iconst X dX12_noCell_18 (v := (0 : Int32)) (by decide) ?_
    refine r_aload_n X dX12_noCell_19 rfl 0 rfl ?_
    refine tw_g12_8 (k := 442) (v := .ref (tw_zB z + 444)) X dX12_noCell_20 _ tw_w1260 tw_kc442 rfl ?_
    refine r_iconst X dX12_noCell_23 (v := (1 : Int32)) (by decide) ?_
    refine r_iald (k := 444) X dX12_noCell_24 tw_kc444 ?_
    refine r_iconst X dX12_noCell_25 (v := (1 : Int32)) (by decide) ?_
    refine r_isub X dX12_noCell_26 ?_
    refine r_bd (fun r7 hr7 => ?_)
    refine tw_c_X12_in X dX12_noCell_27 _ tw_w1359  hr7 (tw_le hfr rfl) (tw_le hlo rfl) hcs (Nat.le_of_ble_eq_true rfl) trivial ?_
    refine r_if_ne X dX12_noCell_30 (tgt := 37) (by decide) ?_ ?_
    ·
      refine r_iconst X dX12_noCell_37 (v := (0 : Int32)) (by decide) ?_
      exact tw_Rf.sub [] rfl (hj3 (0 : Int32) trivial)
    ·
      exact tw_Rf.sub [] rfl (hj6 () trivial)
theorem tw_c_X12_noCell {ρ : Type} {z : tw_Z} {cc : ByteArray} {own : String} {nL pc : Nat} {σ : tw_Sg} {L : List (Nat × Value)} {st : List Value} {ix : Nat} {x0 : Int32} {x1 : Int32} (X : tw_X z cc own nL) (d : decode cc pc = .ok (.invokevirtual ix, 3)) (i : Nat) (hi : lw_tbl[i]? = some (.methodLink own ix yX12_noCell))  {res : ρ} {E : Option ρ} {r : Int32 × tw_Sg} (h : tw_P_X12_noCell x0 x1 σ = some r) (h1 : 2 ≤ (tw_zR z).frames) (h2 : 44 ≤ (tw_zR z).locals) (hcs : tw_zcells z ≤ (tw_zR z).cells ∧ tw_zslots z ≤ (tw_zR z).slots) (hst : (st.map fun v => v.category).sum ≤ 8) (_ : True) (kk : tw_Rf z res E r.2 (pc + 3) L (.int r.1 :: st)) : tw_Rf z res E σ pc L (.int x1 :: .int x0 :: .ref (tw_zB z + 442) :: st) := r_callV (As := [.int x0, .int x1]) X d (tw_m_X12_noCell  h) tw_y_X12_noCell tw_v_X12_noCell i hi rfl (tw_kd_lt tw_kc442 (by decide)) (tw_E12 tw_kc442) rfl ⟨rfl, rfl, h1, h2⟩ hcs hst rfl kk
def tw_P_X12_noClue (x0 : Int32) (σ : tw_Sg) : Option (Int32 × tw_Sg) :=
tw_ck (tw_ok (3 : Int32) (tw_ln 444)) (
tw_bd (tw_P_X12_in x0 (0 : Int32) ((σ 444 (Int32.toNatClampNeg (3 : Int32))) - (1 : Int32)) σ) (fun r1 =>
tw_jn (fun (a2 : Int32) =>
tw_bd (tw_P_X12_fails a2 (1 : Int32) σ) (fun r4 =>
tw_ck (tw_01 r4.1) (some (r4.1, r4.2)))) (fun (j3 : (Int32) → Option (Int32 × tw_Sg)) =>
if ¬ r1 = 0 then (j3 (0 : Int32))
else (j3 (1 : Int32)))))
theorem tw_y_X12_noClue : tw_My yX12_noClue cX12_noClue 2 (some .boolean) 1 := ⟨List.mem_of_getElem? tw_w1615, List.mem_of_getElem? tw_w101, by decide +kernel, by decide +kernel, by decide +kernel⟩
theorem tw_v_X12_noClue : tw_Mv yX12_noClue "TreasureWalkModel" := ⟨List.mem_of_getElem? tw_w1614, List.mem_of_getElem? tw_w81, rfl⟩
set_option maxRecDepth 100000 in
set_option maxHeartbeats 4000000 in
theorem tw_m_X12_noClue {l : Launch} {B : Nat} {D : va_G} {C : Nat → ClassId} {S : Nat → Nat} {x0 : Int32} {σ : tw_Sg}  {r : Int32 × tw_Sg} (h : tw_P_X12_noClue x0 σ = some r) : tw_Met l B D C S yX12_noClue cX12_noClue 2 (some .boolean) ({ frames := 1, cells := 0, slots := 0, locals := 22 } : Room) [.ref (B + 442), .int x0] σ (some (.int r.1)) r.2 := by
  refine tw_metOfP (tw_P_X12_noClue x0 σ) r h (fun r => (some (.int r.1), r.2)) (by decide +kernel) (Nat.le_of_ble_eq_true rfl) ⟨rfl, rfl⟩ ?_
  intro z el eB eD eC eS hfr hlo hcs X hret hQ
  subst el eB eD eC eS
  have X : tw_X z cX12_noClue "TreasureWalkModel" 2 := X
  show tw_Rf z r _ σ 0 [(0, .ref (tw_zB z + 442)), (1, .int x0)] []
  unfold tw_P_X12_noClue
  refine r_aload_n X dX12_noClue_0 rfl 0 rfl ?_
  refine r_iload_n X dX12_noClue_1 rfl 1 rfl ?_
  refine r_iconst X dX12_noClue_2 (v := (0 : Int32)) (by decide) ?_
  refine r_aload_n X dX12_noClue_3 rfl 0 rfl ?_
  refine tw_g12_8 (k := 442) (v := .ref (tw_zB z + 444)) X dX12_noClue_4 _ tw_w1260 tw_kc442 rfl ?_
  refine r_iconst X dX12_noClue_7 (v := (3 : Int32)) (by decide) ?_
  refine r_iald (k := 444) X dX12_noClue_8 tw_kc444 ?_
  refine r_iconst X dX12_noClue_9 (v := (1 : Int32)) (by decide) ?_
  refine r_isub X dX12_noClue_10 ?_
  refine r_bd (fun r1 hr1 => ?_)
  refine tw_c_X12_in X dX12_noClue_11 _ tw_w1359  hr1 (tw_le hfr rfl) (tw_le hlo rfl) hcs (Nat.le_of_ble_eq_true rfl) trivial ?_
  refine r_jn (α := Int32) (σJ := fun a2 => σ) (pcJ := 22) (LJ := fun a2 => []) (stJ := fun a2 => [.int a2, .ref (tw_zB z + 442)]) (ok := fun a2 => True) (fun a2 hoka2 => ?_) (fun j3 hj3 => ?_)
  ·
    refine r_iconst X dX12_noClue_22 (v := (1 : Int32)) (by decide) ?_
    refine r_bd (fun r4 hr4 => ?_)
    refine tw_c_X12_fails X dX12_noClue_23 _ tw_w1362  hr4 (tw_le hfr rfl) (tw_le hlo rfl) hcs (Nat.le_of_ble_eq_true rfl) trivial ?_
    exact r_zret X dX12_noClue_26 hret hQ rfl
  refine r_if_ne X dX12_noClue_14 (tgt := 21) (by decide) ?_ ?_
  ·
    refine r_iconst X dX12_noClue_21 (v := (0 : Int32)) (by decide) ?_
    exact tw_Rf.sub [] rfl (hj3 (0 : Int32) trivial)
  ·
    refine r_iconst X dX12_noClue_17 (v := (1 : Int32)) (by decide) ?_
    refine r_goto X dX12_noClue_18 (tgt := 22) (by decide) ?_
    exact tw_Rf.sub [] rfl (hj3 (1 : Int32) trivial)
theorem tw_c_X12_noClue {ρ : Type} {z : tw_Z} {cc : ByteArray} {own : String} {nL pc : Nat} {σ : tw_Sg} {L : List (Nat × Value)} {st : List Value} {ix : Nat} {x0 : Int32} (X : tw_X z cc own nL) (d : decode cc pc = .ok (.invokevirtual ix, 3)) (i : Nat) (hi : lw_tbl[i]? = some (.methodLink own ix yX12_noClue))  {res : ρ} {E : Option ρ} {r : Int32 × tw_Sg} (h : tw_P_X12_noClue x0 σ = some r) (h1 : 2 ≤ (tw_zR z).frames) (h2 : 43 ≤ (tw_zR z).locals) (hcs : tw_zcells z ≤ (tw_zR z).cells ∧ tw_zslots z ≤ (tw_zR z).slots) (hst : (st.map fun v => v.category).sum ≤ 8) (_ : True) (kk : tw_Rf z res E r.2 (pc + 3) L (.int r.1 :: st)) : tw_Rf z res E σ pc L (.int x0 :: .ref (tw_zB z + 442) :: st) := r_callV (As := [.int x0]) X d (tw_m_X12_noClue  h) tw_y_X12_noClue tw_v_X12_noClue i hi rfl (tw_kd_lt tw_kc442 (by decide)) (tw_E12 tw_kc442) rfl ⟨rfl, rfl, h1, h2⟩ hcs hst rfl kk
def tw_P_X12_marks (n : Nat)  (σ : tw_Sg) : Option (Int32) :=
tw_lt (0 : Int32) (fun (v1 : Int32) =>
tw_lt (0 : Int32) (fun (v2 : Int32) =>
tw_lp (fun (k4 : (Int32 × Int32) → Option (Int32)) (a3 : Int32 × Int32) =>
if (8 : Int32) ≤ a3.2 then (some a3.1)
else (tw_ck (tw_ok ((808 : Int32) + a3.2) (tw_ln 444)) (
tw_jn (fun (a5 : Int32) =>
tw_lt (a3.1 + a5) (fun (v7 : Int32) =>
tw_lt (a3.2 + (1 : Int32)) (fun (v8 : Int32) =>
k4 (v7, v8)))) (fun (j6 : (Int32) → Option (Int32)) =>
if ¬ (σ 444 (Int32.toNatClampNeg ((808 : Int32) + a3.2))) = (-1 : Int32) then (j6 (1 : Int32))
else (j6 (0 : Int32)))))) n (v1, v2)))
theorem tw_y_X12_marks : tw_My yX12_marks cX12_marks 3 (some .int) 0 := ⟨List.mem_of_getElem? tw_w1514, List.mem_of_getElem? tw_w101, by decide +kernel, by decide +kernel, by decide +kernel⟩
theorem tw_v_X12_marks : tw_Mv yX12_marks "TreasureWalkModel" := ⟨List.mem_of_getElem? tw_w1513, List.mem_of_getElem? tw_w61, rfl⟩
set_option maxRecDepth 100000 in
set_option maxHeartbeats 4000000 in
theorem tw_m_X12_marks {l : Launch} {B : Nat} {D : va_G} {C : Nat → ClassId} {S : Nat → Nat} {n : Nat}  {σ : tw_Sg}  {r : Int32} (h : tw_P_X12_marks n σ = some r) : tw_Met l B D C S yX12_marks cX12_marks 3 (some .int) ({ frames := 0, cells := 0, slots := 0, locals := 0 } : Room) [.ref (B + 442)] σ (some (.int r)) σ := by
  refine tw_metOfP (tw_P_X12_marks n σ) r h (fun r => (some (.int r), σ)) (by decide +kernel) (Nat.le_of_ble_eq_true rfl) ⟨rfl, rfl⟩ ?_
  intro z el eB eD eC eS hfr hlo hcs X hret hQ
  subst el eB eD eC eS
  have X : tw_X z cX12_marks "TreasureWalkModel" 3 := X
  show tw_Rf z r _ σ 0 [(0, .ref (tw_zB z + 442))] []
  unfold tw_P_X12_marks
  refine r_iconst X dX12_marks_0 (v := (0 : Int32)) (by decide) ?_
  refine r_istore_n X dX12_marks_1 rfl (by decide) (LL := fun v1 => [(1, .int v1), (0, .ref (tw_zB z + 442))]) (fun _ => rfl) (fun v1 => ?_)
  refine r_iconst X dX12_marks_2 (v := (0 : Int32)) (by decide) ?_
  refine r_istore_n X dX12_marks_3 rfl (by decide) (LL := fun v2 => [(2, .int v2), (1, .int v1), (0, .ref (tw_zB z + 442))]) (fun _ => rfl) (fun v2 => ?_)
  refine r_lp (α := Int32 × Int32) (σJ := fun a3 => σ) (pcJ := 4) (LJ := fun a3 => [(2, .int a3.2), (1, .int a3.1), (0, .ref (tw_zB z + 442))]) (stJ := fun a3 => []) (fun k4 hk4 a3 => ?_) n (v1, v2)
  refine r_iload_n X dX12_marks_4 rfl 0 rfl ?_
  refine r_bipush X dX12_marks_5 (v := (8 : Int32)) (by decide) ?_
  refine r_icmp_ge X dX12_marks_7 (tgt := 38) (by decide) ?_ ?_
  ·
    refine r_iload_n X dX12_marks_38 rfl 1 rfl ?_
    exact r_iret X dX12_marks_39 hret hQ rfl
  ·
    refine r_iload_n X dX12_marks_10 rfl 1 rfl ?_
    refine r_aload_n X dX12_marks_11 rfl 2 rfl ?_
    refine tw_g12_8 (k := 442) (v := .ref (tw_zB z + 444)) X dX12_marks_12 _ tw_w1260 tw_kc442 rfl ?_
    refine r_sipush X dX12_marks_15 (v := (808 : Int32)) (by decide) ?_
    refine r_iload_n X dX12_marks_18 rfl 0 rfl ?_
    refine r_iadd X dX12_marks_19 ?_
    refine r_iald (k := 444) X dX12_marks_20 tw_kc444 ?_
    refine r_iconst X dX12_marks_21 (v := (-1 : Int32)) (by decide) ?_
    refine r_jn (α := Int32) (σJ := fun a5 => σ) (pcJ := 30) (LJ := fun a5 => [(2, .int a3.2), (0, .ref (tw_zB z + 442))]) (stJ := fun a5 => [.int a5, .int a3.1]) (ok := fun a5 => True) (fun a5 hoka5 => ?_) (fun j6 hj6 => ?_)
    ·
      refine r_iadd X dX12_marks_30 ?_
      refine r_istore_n X dX12_marks_31 rfl (by decide) (LL := fun v7 => [(1, .int v7), (2, .int a3.2), (0, .ref (tw_zB z + 442))]) (fun _ => rfl) (fun v7 => ?_)
      refine r_iinc X dX12_marks_32 1 rfl (v := (1 : Int32)) (by decide) (by decide) (LL := fun v8 => [(2, .int v8), (1, .int v7), (0, .ref (tw_zB z + 442))]) (fun _ => rfl) (fun v8 => ?_)
      refine r_goto X dX12_marks_35 (tgt := 4) (by decide) ?_
      exact hk4 (v7, v8)
    refine r_icmp_ne X dX12_marks_22 (tgt := 29) (by decide) ?_ ?_
    ·
      refine r_iconst X dX12_marks_29 (v := (1 : Int32)) (by decide) ?_
      exact tw_Rf.sub [0, 2] rfl (hj6 (1 : Int32) trivial)
    ·
      refine r_iconst X dX12_marks_25 (v := (0 : Int32)) (by decide) ?_
      refine r_goto X dX12_marks_26 (tgt := 30) (by decide) ?_
      exact tw_Rf.sub [0, 2] rfl (hj6 (0 : Int32) trivial)
theorem tw_c_X12_marks {ρ : Type} {z : tw_Z} {cc : ByteArray} {own : String} {nL pc : Nat} {σ : tw_Sg} {L : List (Nat × Value)} {st : List Value} {ix : Nat} {n : Nat}  (X : tw_X z cc own nL) (d : decode cc pc = .ok (.invokevirtual ix, 3)) (i : Nat) (hi : lw_tbl[i]? = some (.methodLink own ix yX12_marks))  {res : ρ} {E : Option ρ} {r : Int32} (h : tw_P_X12_marks n σ = some r) (h1 : 1 ≤ (tw_zR z).frames) (h2 : 22 ≤ (tw_zR z).locals) (hcs : tw_zcells z ≤ (tw_zR z).cells ∧ tw_zslots z ≤ (tw_zR z).slots) (hst : (st.map fun v => v.category).sum ≤ 8) (_ : True) (kk : tw_Rf z res E σ (pc + 3) L (.int r :: st)) : tw_Rf z res E σ pc L (.ref (tw_zB z + 442) :: st) := r_callV (As := []) X d (tw_m_X12_marks  h) tw_y_X12_marks tw_v_X12_marks i hi rfl (tw_kd_lt tw_kc442 (by decide)) (tw_E12 tw_kc442) rfl ⟨rfl, rfl, h1, h2⟩ hcs hst rfl kk
