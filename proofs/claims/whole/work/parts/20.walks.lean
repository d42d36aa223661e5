def tw_P_X12_remember (n : Nat)  (σ : tw_Sg) : Option (tw_Sg) :=
tw_lt (tw_up σ 442 22 (0 : Int32)) (fun (σ1 : tw_Sg) =>
tw_jn (fun (a2 : tw_Sg) =>
tw_ck (tw_ok (a2 442 11) (tw_ln 446)) (
tw_bd (tw_P_X12_copy n 444 (446 + 1 + 1 * Int32.toNatClampNeg (a2 442 11)) a2) (fun r5 =>
tw_lt (tw_up r5 442 11 ((r5 442 11) + (1 : Int32))) (fun (σ6 : tw_Sg) =>
some σ6)))) (fun (j3 : (tw_Sg) → Option (tw_Sg)) =>
if ¬ (σ1 442 11) = (8 : Int32) then (j3 σ1)
else (tw_lt (1 : Int32) (fun (v7 : Int32) =>
tw_lp (fun (k9 : (Int32 × tw_Sg) → Option (tw_Sg)) (a8 : Int32 × tw_Sg) =>
if (8 : Int32) ≤ a8.1 then (tw_lt (tw_up a8.2 442 11 ((a8.2 442 11) - (1 : Int32))) (fun (σ10 : tw_Sg) =>
j3 σ10))
else (tw_ck (tw_ok a8.1 (tw_ln 446)) (
tw_ck (tw_ok (a8.1 - (1 : Int32)) (tw_ln 446)) (
tw_bd (tw_P_X12_copy n (446 + 1 + 1 * Int32.toNatClampNeg a8.1) (446 + 1 + 1 * Int32.toNatClampNeg (a8.1 - (1 : Int32))) a8.2) (fun r13 =>
tw_lt (a8.1 + (1 : Int32)) (fun (v14 : Int32) =>
k9 (v14, r13))))))) n (v7, σ1)))))
theorem tw_y_X12_remember : tw_My yX12_remember cX12_remember 2 none 0 := ⟨List.mem_of_getElem? tw_w1495, List.mem_of_getElem? tw_w101, by decide +kernel, by decide +kernel, by decide +kernel⟩
theorem tw_v_X12_remember : tw_Mv yX12_remember "TreasureWalkModel" := ⟨List.mem_of_getElem? tw_w1494, List.mem_of_getElem? tw_w59, rfl⟩
set_option maxRecDepth 100000 in
set_option maxHeartbeats 4000000 in
theorem tw_m_X12_remember {l : Launch} {B : Nat} {D : va_G} {C : Nat → ClassId} {S : Nat → Nat} {n : Nat}  {σ : tw_Sg}  {r : tw_Sg} (h : tw_P_X12_remember n σ = some r) : tw_Met l B D C S yX12_remember cX12_remember 2 none ({ frames := 1, cells := 0, slots := 0, locals := 22 } : Room) [.ref (B + 442)] σ (none) r := by
  refine tw_metOfP (tw_P_X12_remember n σ) r h (fun r => (none, r)) (by decide +kernel) (Nat.le_of_ble_eq_true rfl) ⟨rfl, rfl⟩ ?_
  intro z el eB eD eC eS hfr hlo hcs X hret hQ
  subst el eB eD eC eS
  have X : tw_X z cX12_remember "TreasureWalkModel" 2 := X
  show tw_Rf z r _ σ 0 [(0, .ref (tw_zB z + 442))] []
  unfold tw_P_X12_remember
  refine r_aload_n X dX12_remember_0 rfl 0 rfl ?_
  refine r_iconst X dX12_remember_1 (v := (0 : Int32)) (by decide) ?_
  refine tw_s12_22 (k := 442) X dX12_remember_2 _ tw_w1274 tw_kc442 (by decide) (fun σ1 => ?_)
  refine r_aload_n X dX12_remember_5 rfl 0 rfl ?_
  refine tw_g12_11 (k := 442) (v := .int (σ1 442 11)) X dX12_remember_6 _ tw_w1263 tw_kc442 rfl ?_
  refine r_bipush X dX12_remember_9 (v := (8 : Int32)) (by decide) ?_
  refine r_jn (α := tw_Sg) (σJ := fun a2 => a2) (pcJ := 55) (LJ := fun a2 => [(0, .ref (tw_zB z + 442))]) (stJ := fun a2 => []) (ok := fun a2 => True) (fun a2 hoka2 => ?_) (fun j3 hj3 => ?_)
  ·
    refine r_aload_n X dX12_remember_55 rfl 0 rfl ?_
    refine tw_g12_8 (k := 442) (v := .ref (tw_zB z + 444)) X dX12_remember_56 _ tw_w1260 tw_kc442 rfl ?_
    refine r_aload_n X dX12_remember_59 rfl 0 rfl ?_
    refine tw_g12_10 (k := 442) (v := .ref (tw_zB z + 446)) X dX12_remember_60 _ tw_w1262 tw_kc442 rfl ?_
    refine r_aload_n X dX12_remember_63 rfl 0 rfl ?_
    refine tw_g12_11 (k := 442) (v := .int (a2 442 11)) X dX12_remember_64 _ tw_w1263 tw_kc442 rfl ?_
    refine r_aald (k := 446) (r := 446 + 1 + 1 * Int32.toNatClampNeg (a2 442 11)) X dX12_remember_67 (tw_kd_lt tw_kc446 (by decide)) (tw_E17 tw_kc446) rfl rfl rfl (fun h4 => ?_)
    refine r_bd (fun r5 hr5 => ?_)
    refine tw_c_X12_copy X dX12_remember_68 _ tw_w1496 tw_kc444 (tw_ke17 tw_kc446 (tw_ok_lt h4)) hr5 (tw_le hfr rfl) (tw_le hlo rfl) hcs (Nat.le_of_ble_eq_true rfl) trivial ?_
    refine r_aload_n X dX12_remember_71 rfl 0 rfl ?_
    refine r_dup X dX12_remember_72 rfl ?_
    refine tw_g12_11 (k := 442) (v := .int (r5 442 11)) X dX12_remember_73 _ tw_w1263 tw_kc442 rfl ?_
    refine r_iconst X dX12_remember_76 (v := (1 : Int32)) (by decide) ?_
    refine r_iadd X dX12_remember_77 ?_
    refine tw_s12_11 (k := 442) X dX12_remember_78 _ tw_w1263 tw_kc442 (fun σ6 => ?_)
    exact r_vret X dX12_remember_81 hret hQ rfl
  refine r_icmp_ne X dX12_remember_11 (tgt := 55) (by decide) ?_ ?_
  ·
    exact hj3 σ1 trivial
  ·
    refine r_iconst X dX12_remember_14 (v := (1 : Int32)) (by decide) ?_
    refine r_istore_n X dX12_remember_15 rfl (by decide) (LL := fun v7 => [(1, .int v7), (0, .ref (tw_zB z + 442))]) (fun _ => rfl) (fun v7 => ?_)
    refine r_lp (α := Int32 × tw_Sg) (σJ := fun a8 => a8.2) (pcJ := 16) (LJ := fun a8 => [(1, .int a8.1), (0, .ref (tw_zB z + 442))]) (stJ := fun a8 => []) (fun k9 hk9 a8 => ?_) n (v7, σ1)
    refine r_iload_n X dX12_remember_16 rfl 0 rfl ?_
    refine r_bipush X dX12_remember_17 (v := (8 : Int32)) (by decide) ?_
    refine r_icmp_ge X dX12_remember_19 (tgt := 45) (by decide) ?_ ?_
    ·
      refine r_aload_n X dX12_remember_45 rfl 1 rfl ?_
      refine r_dup X dX12_remember_46 rfl ?_
      refine tw_g12_11 (k := 442) (v := .int (a8.2 442 11)) X dX12_remember_47 _ tw_w1263 tw_kc442 rfl ?_
      refine r_iconst X dX12_remember_50 (v := (1 : Int32)) (by decide) ?_
      refine r_isub X dX12_remember_51 ?_
      refine tw_s12_11 (k := 442) X dX12_remember_52 _ tw_w1263 tw_kc442 (fun σ10 => ?_)
      exact tw_Rf.sub [1] rfl (hj3 σ10 trivial)
    ·
      refine r_aload_n X dX12_remember_22 rfl 1 rfl ?_
      refine tw_g12_10 (k := 442) (v := .ref (tw_zB z + 446)) X dX12_remember_23 _ tw_w1262 tw_kc442 rfl ?_
      refine r_iload_n X dX12_remember_26 rfl 0 rfl ?_
      refine r_aald (k := 446) (r := 446 + 1 + 1 * Int32.toNatClampNeg a8.1) X dX12_remember_27 (tw_kd_lt tw_kc446 (by decide)) (tw_E17 tw_kc446) rfl rfl rfl (fun h11 => ?_)
      refine r_aload_n X dX12_remember_28 rfl 1 rfl ?_
      refine tw_g12_10 (k := 442) (v := .ref (tw_zB z + 446)) X dX12_remember_29 _ tw_w1262 tw_kc442 rfl ?_
      refine r_iload_n X dX12_remember_32 rfl 0 rfl ?_
      refine r_iconst X dX12_remember_33 (v := (1 : Int32)) (by decide) ?_
      refine r_isub X dX12_remember_34 ?_
      refine r_aald (k := 446) (r := 446 + 1 + 1 * Int32.toNatClampNeg (a8.1 - (1 : Int32))) X dX12_remember_35 (tw_kd_lt tw_kc446 (by decide)) (tw_E17 tw_kc446) rfl rfl rfl (fun h12 => ?_)
      refine r_bd (fun r13 hr13 => ?_)
      refine tw_c_X12_copy X dX12_remember_36 _ tw_w1496 (tw_ke17 tw_kc446 (tw_ok_lt h11)) (tw_ke17 tw_kc446 (tw_ok_lt h12)) hr13 (tw_le hfr rfl) (tw_le hlo rfl) hcs (Nat.le_of_ble_eq_true rfl) trivial ?_
      refine r_iinc X dX12_remember_39 0 rfl (v := (1 : Int32)) (by decide) (by decide) (LL := fun v14 => [(1, .int v14), (0, .ref (tw_zB z + 442))]) (fun _ => rfl) (fun v14 => ?_)
      refine r_goto X dX12_remember_42 (tgt := 16) (by decide) ?_
      exact hk9 (v14, r13)
theorem tw_c_X12_remember {ρ : Type} {z : tw_Z} {cc : ByteArray} {own : String} {nL pc : Nat} {σ : tw_Sg} {L : List (Nat × Value)} {st : List Value} {ix : Nat} {n : Nat}  (X : tw_X z cc own nL) (d : decode cc pc = .ok (.invokevirtual ix, 3)) (i : Nat) (hi : lw_tbl[i]? = some (.methodLink own ix yX12_remember))  {res : ρ} {E : Option ρ} {r : tw_Sg} (h : tw_P_X12_remember n σ = some r) (h1 : 2 ≤ (tw_zR z).frames) (h2 : 43 ≤ (tw_zR z).locals) (hcs : tw_zcells z ≤ (tw_zR z).cells ∧ tw_zslots z ≤ (tw_zR z).slots) (hst : (st.map fun v => v.category).sum ≤ 8) (_ : True) (kk : tw_Rf z res E r (pc + 3) L (st)) : tw_Rf z res E σ pc L (.ref (tw_zB z + 442) :: st) := r_callV (As := []) X d (tw_m_X12_remember  h) tw_y_X12_remember tw_v_X12_remember i hi rfl (tw_kd_lt tw_kc442 (by decide)) (tw_E12 tw_kc442) rfl ⟨rfl, rfl, h1, h2⟩ hcs hst rfl kk
def tw_P_X12_load (n : Nat) (x0 : Int32) (σ : tw_Sg) : Option (Int32 × tw_Sg) :=
tw_lt (tw_up σ 442 0 (0 : Int32)) (fun (σ1 : tw_Sg) =>
tw_bd (tw_P_X12_in x0 (0 : Int32) (σ1 442 2) σ1) (fun r2 =>
tw_jn (fun (a3 : Int32) =>
tw_bd (tw_P_X12_fails a3 (1 : Int32) σ1) (fun r5 =>
if r5.1 = 0 then (tw_lt (tw_up r5.2 442 2 (0 : Int32)) (fun (σ6 : tw_Sg) =>
tw_lt (tw_up σ6 442 3 x0) (fun (σ7 : tw_Sg) =>
tw_lt (tw_up σ7 442 4 (0 : Int32)) (fun (σ8 : tw_Sg) =>
tw_lt (tw_up σ8 442 5 (0 : Int32)) (fun (σ9 : tw_Sg) =>
tw_lt (tw_up σ9 442 6 (-1 : Int32)) (fun (σ10 : tw_Sg) =>
tw_lt (tw_up σ10 442 13 (-1 : Int32)) (fun (σ11 : tw_Sg) =>
tw_bd (tw_P_X12_takeWord n 5 σ11) (fun r12 =>
tw_jn (fun (a13 : tw_Sg) =>
tw_bd (tw_P_X12_number n (1 : Int32) (20 : Int32) a13) (fun r15 =>
tw_lt r15.1 (fun (v16 : Int32) =>
tw_bd (tw_P_X12_number n (1 : Int32) (20 : Int32) r15.2) (fun r17 =>
tw_lt r17.1 (fun (v18 : Int32) =>
tw_bd (tw_P_X12_max (1 : Int32) v16 r17.2) (fun r19 =>
tw_bd (tw_P_X12_max (1 : Int32) v18 r17.2) (fun r20 =>
tw_bd (tw_P_X12_layMap n 445 r19 r20 r17.2) (fun r21 =>
tw_bd (tw_P_X12_expect n (59 : Int32) r21) (fun r22 =>
tw_lp (fun (k24 : (tw_Sg) → Option (Int32 × tw_Sg)) (a23 : tw_Sg) =>
tw_bd (tw_P_X12_isGood a23) (fun r25 =>
tw_jn (fun (a26 : tw_Sg) =>
tw_lt (tw_up a26 442 7 (a26 442 6)) (fun (σ28 : tw_Sg) =>
tw_bd (tw_P_X12_isGood σ28) (fun r29 =>
if ¬ r29 = 0 then (tw_jn (fun (a30 : Int32) =>
tw_ck (tw_ok (4 : Int32) (tw_ln 445)) (tw_lt (tw_up σ28 445 (Int32.toNatClampNeg (4 : Int32)) a30) (fun (σ32 : tw_Sg) =>
tw_bd (tw_P_X12_remember n σ32) (fun r33 =>
tw_bd (tw_P_X12_copy n 445 444 r33) (fun r34 =>
tw_ck (tw_ok (3 : Int32) (tw_ln 444)) (
some ((r34 444 (Int32.toNatClampNeg (3 : Int32))), r34))))))) (fun (j31 : (Int32) → Option (Int32 × tw_Sg)) =>
if ¬ (σ28 442 13) = (-1 : Int32) then (j31 (σ28 442 13))
else (tw_bd (tw_P_X12_firstLand n 445 σ28) (fun r35 =>
j31 r35))))
else (some ((σ28 442 5), σ28))))) (fun (j27 : (tw_Sg) → Option (Int32 × tw_Sg)) =>
if r25 = 0 then (j27 a23)
else (tw_bd (tw_P_X12_ahead n a23) (fun r36 =>
if r36.1 = (-1 : Int32) then (j27 r36.2)
else (tw_bd (tw_P_X12_statement n r36.2) (fun r37 =>
k24 r37))))))) n r22))))))))) (fun (j14 : (tw_Sg) → Option (Int32 × tw_Sg)) =>
if ¬ r12.1 = 0 then (j14 r12.2)
else (tw_bd (tw_P_X12_report (-2 : Int32) (r12.2 442 4) r12.2) (fun r38 =>
j14 r38)))))))))))
else (some ((0 : Int32), r5.2)))) (fun (j4 : (Int32) → Option (Int32 × tw_Sg)) =>
if ¬ r2 = 0 then (j4 (0 : Int32))
else (j4 (1 : Int32)))))
theorem tw_y_X12_load : tw_My yX12_load cX12_load 4 (some .int) 1 := ⟨List.mem_of_getElem? tw_w1358, List.mem_of_getElem? tw_w101, by decide +kernel, by decide +kernel, by decide +kernel⟩
theorem tw_v_X12_load : tw_Mv yX12_load "TreasureWalkModel" := ⟨List.mem_of_getElem? tw_w1356, List.mem_of_getElem? tw_w1357, rfl⟩
set_option maxRecDepth 100000 in
set_option maxHeartbeats 4000000 in
theorem tw_m_X12_load {l : Launch} {B : Nat} {D : va_G} {C : Nat → ClassId} {S : Nat → Nat} {n : Nat} {x0 : Int32} {σ : tw_Sg}  {r : Int32 × tw_Sg} (h : tw_P_X12_load n x0 σ = some r) : tw_Met l B D C S yX12_load cX12_load 4 (some .int) ({ frames := 11, cells := 0, slots := 0, locals := 235 } : Room) [.ref (B + 442), .int x0] σ (some (.int r.1)) r.2 := by
  refine tw_metOfP (tw_P_X12_load n x0 σ) r h (fun r => (some (.int r.1), r.2)) (by decide +kernel) (Nat.le_of_ble_eq_true rfl) ⟨rfl, rfl⟩ ?_
  intro z el eB eD eC eS hfr hlo hcs X hret hQ
  subst el eB eD eC eS
  have X : tw_X z cX12_load "TreasureWalkModel" 4 := X
  show tw_Rf z r _ σ 0 [(0, .ref (tw_zB z + 442)), (1, .int x0)] []
  unfold tw_P_X12_load
  refine r_aload_n X dX12_load_0 rfl 0 rfl ?_
  refine r_iconst X dX12_load_1 (v := (0 : Int32)) (by decide) ?_
  refine tw_s12_0 (k := 442) X dX12_load_2 _ tw_w1252 tw_kc442 (fun σ1 => ?_)
  refine r_aload_n X dX12_load_5 rfl 0 rfl ?_
  refine r_iload_n X dX12_load_6 rfl 1 rfl ?_
  refine r_iconst X dX12_load_7 (v := (0 : Int32)) (by decide) ?_
  refine r_aload_n X dX12_load_8 rfl 0 rfl ?_
  refine tw_g12_2 (k := 442) (v := .int (σ1 442 2)) X dX12_load_9 _ tw_w1254 tw_kc442 rfl ?_
  refine r_bd (fun r2 hr2 => ?_)
  refine tw_c_X12_in X dX12_load_12 _ tw_w1359  hr2 (tw_le hfr rfl) (tw_le hlo rfl) hcs (Nat.le_of_ble_eq_true rfl) trivial ?_
  refine r_jn (α := Int32) (σJ := fun a3 => σ1) (pcJ := 23) (LJ := fun a3 => [(0, .ref (tw_zB z + 442)), (1, .int x0)]) (stJ := fun a3 => [.int a3, .ref (tw_zB z + 442)]) (ok := fun a3 => True) (fun a3 hoka3 => ?_) (fun j4 hj4 => ?_)
  ·
    refine r_iconst X dX12_load_23 (v := (1 : Int32)) (by decide) ?_
    refine r_bd (fun r5 hr5 => ?_)
    refine tw_c_X12_fails X dX12_load_24 _ tw_w1362  hr5 (tw_le hfr rfl) (tw_le hlo rfl) hcs (Nat.le_of_ble_eq_true rfl) trivial ?_
    refine r_if_eq X dX12_load_27 (tgt := 32) (by decide) ?_ ?_
    ·
      refine r_aload_n X dX12_load_32 rfl 0 rfl ?_
      refine r_iconst X dX12_load_33 (v := (0 : Int32)) (by decide) ?_
      refine tw_s12_2 (k := 442) X dX12_load_34 _ tw_w1254 tw_kc442 (fun σ6 => ?_)
      refine r_aload_n X dX12_load_37 rfl 0 rfl ?_
      refine r_iload_n X dX12_load_38 rfl 1 rfl ?_
      refine tw_s12_3 (k := 442) X dX12_load_39 _ tw_w1255 tw_kc442 (fun σ7 => ?_)
      refine r_aload_n X dX12_load_42 rfl 0 rfl ?_
      refine r_iconst X dX12_load_43 (v := (0 : Int32)) (by decide) ?_
      refine tw_s12_4 (k := 442) X dX12_load_44 _ tw_w1256 tw_kc442 (fun σ8 => ?_)
      refine r_aload_n X dX12_load_47 rfl 0 rfl ?_
      refine r_iconst X dX12_load_48 (v := (0 : Int32)) (by decide) ?_
      refine tw_s12_5 (k := 442) X dX12_load_49 _ tw_w1257 tw_kc442 (fun σ9 => ?_)
      refine r_aload_n X dX12_load_52 rfl 0 rfl ?_
      refine r_iconst X dX12_load_53 (v := (-1 : Int32)) (by decide) ?_
      refine tw_s12_6 (k := 442) X dX12_load_54 _ tw_w1258 tw_kc442 (fun σ10 => ?_)
      refine r_aload_n X dX12_load_57 rfl 0 rfl ?_
      refine r_iconst X dX12_load_58 (v := (-1 : Int32)) (by decide) ?_
      refine tw_s12_13 (k := 442) X dX12_load_59 _ tw_w1265 tw_kc442 (fun σ11 => ?_)
      refine r_aload_n X dX12_load_62 rfl 0 rfl ?_
      refine r_ldcS X dX12_load_63 (j := 5) tw_l_M_250 ?_
      refine r_bd (fun r12 hr12 => ?_)
      refine tw_c_X12_takeWord X dX12_load_65 _ tw_w1367 (by decide) hr12 (tw_le hfr rfl) (tw_le hlo rfl) hcs (Nat.le_of_ble_eq_true rfl) trivial ?_
      refine r_jn (α := tw_Sg) (σJ := fun a13 => a13) (pcJ := 81) (LJ := fun a13 => [(0, .ref (tw_zB z + 442))]) (stJ := fun a13 => []) (ok := fun a13 => True) (fun a13 hoka13 => ?_) (fun j14 hj14 => ?_)
      ·
        refine r_aload_n X dX12_load_81 rfl 0 rfl ?_
        refine r_iconst X dX12_load_82 (v := (1 : Int32)) (by decide) ?_
        refine r_bipush X dX12_load_83 (v := (20 : Int32)) (by decide) ?_
        refine r_bd (fun r15 hr15 => ?_)
        refine tw_c_X12_number X dX12_load_85 _ tw_w1389  hr15 (tw_le hfr rfl) (tw_le hlo rfl) hcs (Nat.le_of_ble_eq_true rfl) trivial ?_
        refine r_istore_n X dX12_load_88 rfl (by decide) (LL := fun v16 => [(2, .int v16), (0, .ref (tw_zB z + 442))]) (fun _ => rfl) (fun v16 => ?_)
        refine r_aload_n X dX12_load_89 rfl 1 rfl ?_
        refine r_iconst X dX12_load_90 (v := (1 : Int32)) (by decide) ?_
        refine r_bipush X dX12_load_91 (v := (20 : Int32)) (by decide) ?_
        refine r_bd (fun r17 hr17 => ?_)
        refine tw_c_X12_number X dX12_load_93 _ tw_w1389  hr17 (tw_le hfr rfl) (tw_le hlo rfl) hcs (Nat.le_of_ble_eq_true rfl) trivial ?_
        refine r_istore_n X dX12_load_96 rfl (by decide) (LL := fun v18 => [(3, .int v18), (2, .int v16), (0, .ref (tw_zB z + 442))]) (fun _ => rfl) (fun v18 => ?_)
        refine r_aload_n X dX12_load_97 rfl 2 rfl ?_
        refine tw_g12_9 (k := 442) (v := .ref (tw_zB z + 445)) X dX12_load_98 _ tw_w1261 tw_kc442 rfl ?_
        refine r_iconst X dX12_load_101 (v := (1 : Int32)) (by decide) ?_
        refine r_iload_n X dX12_load_102 rfl 1 rfl ?_
        refine r_bd (fun r19 hr19 => ?_)
        refine tw_c_X12_max X dX12_load_103 _ tw_w1400  hr19 (tw_le hfr rfl) (tw_le hlo rfl) hcs (Nat.le_of_ble_eq_true rfl) trivial ?_
        refine r_iconst X dX12_load_106 (v := (1 : Int32)) (by decide) ?_
        refine r_iload_n X dX12_load_107 rfl 0 rfl ?_
        refine r_bd (fun r20 hr20 => ?_)
        refine tw_c_X12_max X dX12_load_108 _ tw_w1400  hr20 (tw_le hfr rfl) (tw_le hlo rfl) hcs (Nat.le_of_ble_eq_true rfl) trivial ?_
        refine r_bd (fun r21 hr21 => ?_)
        refine tw_c_X12_layMap X dX12_load_111 _ tw_w1249 tw_kc445 hr21 (tw_le hfr rfl) (tw_le hlo rfl) hcs (Nat.le_of_ble_eq_true rfl) trivial ?_
        refine r_aload_n X dX12_load_114 rfl 2 rfl ?_
        refine r_bipush X dX12_load_115 (v := (59 : Int32)) (by decide) ?_
        refine r_bd (fun r22 hr22 => ?_)
        refine tw_c_X12_expect X dX12_load_117 _ tw_w1403  hr22 (tw_le hfr rfl) (tw_le hlo rfl) hcs (Nat.le_of_ble_eq_true rfl) trivial ?_
        refine tw_Rf.sub [2] rfl ?_
        refine r_lp (α := tw_Sg) (σJ := fun a23 => a23) (pcJ := 120) (LJ := fun a23 => [(0, .ref (tw_zB z + 442))]) (stJ := fun a23 => []) (fun k24 hk24 a23 => ?_) n r22
        refine r_aload_n X dX12_load_120 rfl 0 rfl ?_
        refine r_bd (fun r25 hr25 => ?_)
        refine tw_c_X12_isGood X dX12_load_121 _ tw_w1371  hr25 (tw_le hfr rfl) (tw_le hlo rfl) hcs (Nat.le_of_ble_eq_true rfl) trivial ?_
        refine r_jn (α := tw_Sg) (σJ := fun a26 => a26) (pcJ := 142) (LJ := fun a26 => [(0, .ref (tw_zB z + 442))]) (stJ := fun a26 => []) (ok := fun a26 => True) (fun a26 hoka26 => ?_) (fun j27 hj27 => ?_)
        ·
          refine r_aload_n X dX12_load_142 rfl 0 rfl ?_
          refine r_aload_n X dX12_load_143 rfl 0 rfl ?_
          refine tw_g12_6 (k := 442) (v := .int (a26 442 6)) X dX12_load_144 _ tw_w1258 tw_kc442 rfl ?_
          refine tw_s12_7 (k := 442) X dX12_load_147 _ tw_w1259 tw_kc442 (fun σ28 => ?_)
          refine r_aload_n X dX12_load_150 rfl 0 rfl ?_
          refine r_bd (fun r29 hr29 => ?_)
          refine tw_c_X12_isGood X dX12_load_151 _ tw_w1371  hr29 (tw_le hfr rfl) (tw_le hlo rfl) hcs (Nat.le_of_ble_eq_true rfl) trivial ?_
          refine r_if_ne X dX12_load_154 (tgt := 162) (by decide) ?_ ?_
          ·
            refine r_aload_n X dX12_load_162 rfl 0 rfl ?_
            refine tw_g12_9 (k := 442) (v := .ref (tw_zB z + 445)) X dX12_load_163 _ tw_w1261 tw_kc442 rfl ?_
            refine r_iconst X dX12_load_166 (v := (4 : Int32)) (by decide) ?_
            refine r_aload_n X dX12_load_167 rfl 0 rfl ?_
            refine tw_g12_13 (k := 442) (v := .int (σ28 442 13)) X dX12_load_168 _ tw_w1265 tw_kc442 rfl ?_
            refine r_iconst X dX12_load_171 (v := (-1 : Int32)) (by decide) ?_
            refine r_jn (α := Int32) (σJ := fun a30 => σ28) (pcJ := 189) (LJ := fun a30 => [(0, .ref (tw_zB z + 442))]) (stJ := fun a30 => [.int a30, .int (4 : Int32), .ref (tw_zB z + 445)]) (ok := fun a30 => True) (fun a30 hoka30 => ?_) (fun j31 hj31 => ?_)
            ·
              refine r_iast (k := 445) X dX12_load_189 tw_kc445 (fun σ32 => ?_)
              refine r_aload_n X dX12_load_190 rfl 0 rfl ?_
              refine r_bd (fun r33 hr33 => ?_)
              refine tw_c_X12_remember X dX12_load_191 _ tw_w1492  hr33 (tw_le hfr rfl) (tw_le hlo rfl) hcs (Nat.le_of_ble_eq_true rfl) trivial ?_
              refine r_aload_n X dX12_load_194 rfl 0 rfl ?_
              refine tw_g12_9 (k := 442) (v := .ref (tw_zB z + 445)) X dX12_load_195 _ tw_w1261 tw_kc442 rfl ?_
              refine r_aload_n X dX12_load_198 rfl 0 rfl ?_
              refine tw_g12_8 (k := 442) (v := .ref (tw_zB z + 444)) X dX12_load_199 _ tw_w1260 tw_kc442 rfl ?_
              refine r_bd (fun r34 hr34 => ?_)
              refine tw_c_X12_copy X dX12_load_202 _ tw_w1496 tw_kc445 tw_kc444 hr34 (tw_le hfr rfl) (tw_le hlo rfl) hcs (Nat.le_of_ble_eq_true rfl) trivial ?_
              refine r_aload_n X dX12_load_205 rfl 0 rfl ?_
              refine tw_g12_8 (k := 442) (v := .ref (tw_zB z + 444)) X dX12_load_206 _ tw_w1260 tw_kc442 rfl ?_
              refine r_iconst X dX12_load_209 (v := (3 : Int32)) (by decide) ?_
              refine r_iald (k := 444) X dX12_load_210 tw_kc444 ?_
              exact r_iret X dX12_load_211 hret hQ rfl
            refine r_icmp_ne X dX12_load_172 (tgt := 185) (by decide) ?_ ?_
            ·
              refine r_aload_n X dX12_load_185 rfl 0 rfl ?_
              refine tw_g12_13 (k := 442) (v := .int (σ28 442 13)) X dX12_load_186 _ tw_w1265 tw_kc442 rfl ?_
              exact hj31 (σ28 442 13) trivial
            ·
              refine r_aload_n X dX12_load_175 rfl 0 rfl ?_
              refine tw_g12_9 (k := 442) (v := .ref (tw_zB z + 445)) X dX12_load_176 _ tw_w1261 tw_kc442 rfl ?_
              refine r_bd (fun r35 hr35 => ?_)
              refine tw_c_X12_firstLand X dX12_load_179 _ tw_w1424 tw_kc445 hr35 (tw_le hfr rfl) (tw_le hlo rfl) hcs (Nat.le_of_ble_eq_true rfl) trivial ?_
              refine r_goto X dX12_load_182 (tgt := 189) (by decide) ?_
              exact hj31 r35 trivial
          ·
            refine r_aload_n X dX12_load_157 rfl 0 rfl ?_
            refine tw_g12_5 (k := 442) (v := .int (σ28 442 5)) X dX12_load_158 _ tw_w1257 tw_kc442 rfl ?_
            exact r_iret X dX12_load_161 hret hQ rfl
        refine r_if_eq X dX12_load_124 (tgt := 142) (by decide) ?_ ?_
        ·
          exact hj27 a23 trivial
        ·
          refine r_aload_n X dX12_load_127 rfl 0 rfl ?_
          refine r_bd (fun r36 hr36 => ?_)
          refine tw_c_X12_ahead X dX12_load_128 _ tw_w1375  hr36 (tw_le hfr rfl) (tw_le hlo rfl) hcs (Nat.le_of_ble_eq_true rfl) trivial ?_
          refine r_iconst X dX12_load_131 (v := (-1 : Int32)) (by decide) ?_
          refine r_icmp_eq X dX12_load_132 (tgt := 142) (by decide) ?_ ?_
          ·
            exact hj27 r36.2 trivial
          ·
            refine r_aload_n X dX12_load_135 rfl 0 rfl ?_
            refine r_bd (fun r37 hr37 => ?_)
            refine tw_c_X12_statement X dX12_load_136 _ tw_w1407  hr37 (tw_le hfr rfl) (tw_le hlo rfl) hcs (Nat.le_of_ble_eq_true rfl) trivial ?_
            refine r_goto X dX12_load_139 (tgt := 120) (by decide) ?_
            exact hk24 r37
      refine r_if_ne X dX12_load_68 (tgt := 81) (by decide) ?_ ?_
      ·
        exact tw_Rf.sub [0] rfl (hj14 r12.2 trivial)
      ·
        refine r_aload_n X dX12_load_71 rfl 0 rfl ?_
        refine r_bipush X dX12_load_72 (v := (-2 : Int32)) (by decide) ?_
        refine r_aload_n X dX12_load_74 rfl 0 rfl ?_
        refine tw_g12_4 (k := 442) (v := .int (r12.2 442 4)) X dX12_load_75 _ tw_w1256 tw_kc442 rfl ?_
        refine r_bd (fun r38 hr38 => ?_)
        refine tw_c_X12_report X dX12_load_78 _ tw_w1385  hr38 (tw_le hfr rfl) (tw_le hlo rfl) hcs (Nat.le_of_ble_eq_true rfl) trivial ?_
        exact tw_Rf.sub [0] rfl (hj14 r38 trivial)
    ·
      refine r_iconst X dX12_load_30 (v := (0 : Int32)) (by decide) ?_
      exact r_iret X dX12_load_31 hret hQ rfl
  refine r_if_ne X dX12_load_15 (tgt := 22) (by decide) ?_ ?_
  ·
    refine r_iconst X dX12_load_22 (v := (0 : Int32)) (by decide) ?_
    exact hj4 (0 : Int32) trivial
  ·
    refine r_iconst X dX12_load_18 (v := (1 : Int32)) (by decide) ?_
    refine r_goto X dX12_load_19 (tgt := 23) (by decide) ?_
    exact hj4 (1 : Int32) trivial
theorem tw_c_X12_load {ρ : Type} {z : tw_Z} {cc : ByteArray} {own : String} {nL pc : Nat} {σ : tw_Sg} {L : List (Nat × Value)} {st : List Value} {ix : Nat} {n : Nat} {x0 : Int32} (X : tw_X z cc own nL) (d : decode cc pc = .ok (.invokevirtual ix, 3)) (i : Nat) (hi : lw_tbl[i]? = some (.methodLink own ix yX12_load))  {res : ρ} {E : Option ρ} {r : Int32 × tw_Sg} (h : tw_P_X12_load n x0 σ = some r) (h1 : 12 ≤ (tw_zR z).frames) (h2 : 258 ≤ (tw_zR z).locals) (hcs : tw_zcells z ≤ (tw_zR z).cells ∧ tw_zslots z ≤ (tw_zR z).slots) (hst : (st.map fun v => v.category).sum ≤ 8) (_ : True) (kk : tw_Rf z res E r.2 (pc + 3) L (.int r.1 :: st)) : tw_Rf z res E σ pc L (.int x0 :: .ref (tw_zB z + 442) :: st) := r_callV (As := [.int x0]) X d (tw_m_X12_load  h) tw_y_X12_load tw_v_X12_load i hi rfl (tw_kd_lt tw_kc442 (by decide)) (tw_E12 tw_kc442) rfl ⟨rfl, rfl, h1, h2⟩ hcs hst rfl kk
def tw_P_X12_errorOffset  (σ : tw_Sg) : Option (Int32 × tw_Sg) :=
tw_lt (tw_up σ 442 0 (0 : Int32)) (fun (σ1 : tw_Sg) =>
some ((σ1 442 7), σ1))
theorem tw_y_X12_errorOffset : tw_My yX12_errorOffset cX12_errorOffset 1 (some .int) 0 := ⟨List.mem_of_getElem? tw_w1502, List.mem_of_getElem? tw_w101, by decide +kernel, by decide +kernel, by decide +kernel⟩
theorem tw_v_X12_errorOffset : tw_Mv yX12_errorOffset "TreasureWalkModel" := ⟨List.mem_of_getElem? tw_w1500, List.mem_of_getElem? tw_w1501, rfl⟩
set_option maxRecDepth 100000 in
set_option maxHeartbeats 4000000 in
theorem tw_m_X12_errorOffset {l : Launch} {B : Nat} {D : va_G} {C : Nat → ClassId} {S : Nat → Nat}  {σ : tw_Sg}  {r : Int32 × tw_Sg} (h : tw_P_X12_errorOffset σ = some r) : tw_Met l B D C S yX12_errorOffset cX12_errorOffset 1 (some .int) ({ frames := 0, cells := 0, slots := 0, locals := 0 } : Room) [.ref (B + 442)] σ (some (.int r.1)) r.2 := by
  refine tw_metOfP (tw_P_X12_errorOffset σ) r h (fun r => (some (.int r.1), r.2)) (by decide +kernel) (Nat.le_of_ble_eq_true rfl) ⟨rfl, rfl⟩ ?_
  intro z el eB eD eC eS hfr hlo hcs X hret hQ
  subst el eB eD eC eS
  have X : tw_X z cX12_errorOffset "TreasureWalkModel" 1 := X
  show tw_Rf z r _ σ 0 [(0, .ref (tw_zB z + 442))] []
  unfold tw_P_X12_errorOffset
  refine r_aload_n X dX12_errorOffset_0 rfl 0 rfl ?_
  refine r_iconst X dX12_errorOffset_1 (v := (0 : Int32)) (by decide) ?_
  refine tw_s12_0 (k := 442) X dX12_errorOffset_2 _ tw_w1252 tw_kc442 (fun σ1 => ?_)
  refine r_aload_n X dX12_errorOffset_5 rfl 0 rfl ?_
  refine tw_g12_7 (k := 442) (v := .int (σ1 442 7)) X dX12_errorOffset_6 _ tw_w1259 tw_kc442 rfl ?_
  exact r_iret X dX12_errorOffset_9 hret hQ rfl
theorem tw_c_X12_errorOffset {ρ : Type} {z : tw_Z} {cc : ByteArray} {own : String} {nL pc : Nat} {σ : tw_Sg} {L : List (Nat × Value)} {st : List Value} {ix : Nat}  (X : tw_X z cc own nL) (d : decode cc pc = .ok (.invokevirtual ix, 3)) (i : Nat) (hi : lw_tbl[i]? = some (.methodLink own ix yX12_errorOffset))  {res : ρ} {E : Option ρ} {r : Int32 × tw_Sg} (h : tw_P_X12_errorOffset σ = some r) (h1 : 1 ≤ (tw_zR z).frames) (h2 : 20 ≤ (tw_zR z).locals) (hcs : tw_zcells z ≤ (tw_zR z).cells ∧ tw_zslots z ≤ (tw_zR z).slots) (hst : (st.map fun v => v.category).sum ≤ 8) (_ : True) (kk : tw_Rf z res E r.2 (pc + 3) L (.int r.1 :: st)) : tw_Rf z res E σ pc L (.ref (tw_zB z + 442) :: st) := r_callV (As := []) X d (tw_m_X12_errorOffset  h) tw_y_X12_errorOffset tw_v_X12_errorOffset i hi rfl (tw_kd_lt tw_kc442 (by decide)) (tw_E12 tw_kc442) rfl ⟨rfl, rfl, h1, h2⟩ hcs hst rfl kk
def tw_P_X12_cells  (σ : tw_Sg) : Option (Int32) :=
tw_ck (tw_ok (0 : Int32) (tw_ln 444)) (
tw_ck (tw_ok (1 : Int32) (tw_ln 444)) (
some ((σ 444 (Int32.toNatClampNeg (0 : Int32))) * (σ 444 (Int32.toNatClampNeg (1 : Int32))))))
theorem tw_y_X12_cells : tw_My yX12_cells cX12_cells 1 (some .int) 0 := ⟨List.mem_of_getElem? tw_w1526, List.mem_of_getElem? tw_w101, by decide +kernel, by decide +kernel, by decide +kernel⟩
theorem tw_v_X12_cells : tw_Mv yX12_cells "TreasureWalkModel" := ⟨List.mem_of_getElem? tw_w1525, List.mem_of_getElem? tw_w64, rfl⟩
set_option maxRecDepth 100000 in
set_option maxHeartbeats 4000000 in
theorem tw_m_X12_cells {l : Launch} {B : Nat} {D : va_G} {C : Nat → ClassId} {S : Nat → Nat}  {σ : tw_Sg}  {r : Int32} (h : tw_P_X12_cells σ = some r) : tw_Met l B D C S yX12_cells cX12_cells 1 (some .int) ({ frames := 0, cells := 0, slots := 0, locals := 0 } : Room) [.ref (B + 442)] σ (some (.int r)) σ := by
  refine tw_metOfP (tw_P_X12_cells σ) r h (fun r => (some (.int r), σ)) (by decide +kernel) (Nat.le_of_ble_eq_true rfl) ⟨rfl, rfl⟩ ?_
  intro z el eB eD eC eS hfr hlo hcs X hret hQ
  subst el eB eD eC eS
  have X : tw_X z cX12_cells "TreasureWalkModel" 1 := X
  show tw_Rf z r _ σ 0 [(0, .ref (tw_zB z + 442))] []
  unfold tw_P_X12_cells
  refine r_aload_n X dX12_cells_0 rfl 0 rfl ?_
  refine tw_g12_8 (k := 442) (v := .ref (tw_zB z + 444)) X dX12_cells_1 _ tw_w1260 tw_kc442 rfl ?_
  refine r_iconst X dX12_cells_4 (v := (0 : Int32)) (by decide) ?_
  refine r_iald (k := 444) X dX12_cells_5 tw_kc444 ?_
  refine r_aload_n X dX12_cells_6 rfl 0 rfl ?_
  refine tw_g12_8 (k := 442) (v := .ref (tw_zB z + 444)) X dX12_cells_7 _ tw_w1260 tw_kc442 rfl ?_
  refine r_iconst X dX12_cells_10 (v := (1 : Int32)) (by decide) ?_
  refine r_iald (k := 444) X dX12_cells_11 tw_kc444 ?_
  refine r_imul X dX12_cells_12 ?_
  exact r_iret X dX12_cells_13 hret hQ rfl
theorem tw_c_X12_cells {ρ : Type} {z : tw_Z} {cc : ByteArray} {own : String} {nL pc : Nat} {σ : tw_Sg} {L : List (Nat × Value)} {st : List Value} {ix : Nat}  (X : tw_X z cc own nL) (d : decode cc pc = .ok (.invokevirtual ix, 3)) (i : Nat) (hi : lw_tbl[i]? = some (.methodLink own ix yX12_cells))  {res : ρ} {E : Option ρ} {r : Int32} (h : tw_P_X12_cells σ = some r) (h1 : 1 ≤ (tw_zR z).frames) (h2 : 20 ≤ (tw_zR z).locals) (hcs : tw_zcells z ≤ (tw_zR z).cells ∧ tw_zslots z ≤ (tw_zR z).slots) (hst : (st.map fun v => v.category).sum ≤ 8) (_ : True) (kk : tw_Rf z res E σ (pc + 3) L (.int r :: st)) : tw_Rf z res E σ pc L (.ref (tw_zB z + 442) :: st) := r_callV (As := []) X d (tw_m_X12_cells  h) tw_y_X12_cells tw_v_X12_cells i hi rfl (tw_kd_lt tw_kc442 (by decide)) (tw_E12 tw_kc442) rfl ⟨rfl, rfl, h1, h2⟩ hcs hst rfl kk
def tw_P_X12_cellAt (x0 : Int32) (x1 : Int32) (σ : tw_Sg) : Option (Int32) :=
tw_ck (tw_ok (0 : Int32) (tw_ln 444)) (
some ((x1 * (σ 444 (Int32.toNatClampNeg (0 : Int32)))) + x0))
theorem tw_y_X12_cellAt : tw_My yX12_cellAt cX12_cellAt 3 (some .int) 2 := ⟨List.mem_of_getElem? tw_w1579, List.mem_of_getElem? tw_w101, by decide +kernel, by decide +kernel, by decide +kernel⟩
theorem tw_v_X12_cellAt : tw_Mv yX12_cellAt "TreasureWalkModel" := ⟨List.mem_of_getElem? tw_w1578, List.mem_of_getElem? tw_w75, rfl⟩
set_option maxRecDepth 100000 in
set_option maxHeartbeats 4000000 in
theorem tw_m_X12_cellAt {l : Launch} {B : Nat} {D : va_G} {C : Nat → ClassId} {S : Nat → Nat} {x0 : Int32} {x1 : Int32} {σ : tw_Sg}  {r : Int32} (h : tw_P_X12_cellAt x0 x1 σ = some r) : tw_Met l B D C S yX12_cellAt cX12_cellAt 3 (some .int) ({ frames := 0, cells := 0, slots := 0, locals := 0 } : Room) [.ref (B + 442), .int x0, .int x1] σ (some (.int r)) σ := by
  refine tw_metOfP (tw_P_X12_cellAt x0 x1 σ) r h (fun r => (some (.int r), σ)) (by decide +kernel) (Nat.le_of_ble_eq_true rfl) ⟨rfl, rfl⟩ ?_
  intro z el eB eD eC eS hfr hlo hcs X hret hQ
  subst el eB eD eC eS
  have X : tw_X z cX12_cellAt "TreasureWalkModel" 3 := X
  show tw_Rf z r _ σ 0 [(0, .ref (tw_zB z + 442)), (1, .int x0), (2, .int x1)] []
  unfold tw_P_X12_cellAt
  refine r_iload_n X dX12_cellAt_0 rfl 2 rfl ?_
  refine r_aload_n X dX12_cellAt_1 rfl 0 rfl ?_
  refine tw_g12_8 (k := 442) (v := .ref (tw_zB z + 444)) X dX12_cellAt_2 _ tw_w1260 tw_kc442 rfl ?_
  refine r_iconst X dX12_cellAt_5 (v := (0 : Int32)) (by decide) ?_
  refine r_iald (k := 444) X dX12_cellAt_6 tw_kc444 ?_
  refine r_imul X dX12_cellAt_7 ?_
  refine r_iload_n X dX12_cellAt_8 rfl 1 rfl ?_
  refine r_iadd X dX12_cellAt_9 ?_
  exact r_iret X dX12_cellAt_10 hret hQ rfl
theorem tw_c_X12_cellAt {ρ : Type} {z : tw_Z} {cc : ByteArray} {own : String} {nL pc : Nat} {σ : tw_Sg} {L : List (Nat × Value)} {st : List Value} {ix : Nat} {x0 : Int32} {x1 : Int32} (X : tw_X z cc own nL) (d : decode cc pc = .ok (.invokevirtual ix, 3)) (i : Nat) (hi : lw_tbl[i]? = some (.methodLink own ix yX12_cellAt))  {res : ρ} {E : Option ρ} {r : Int32} (h : tw_P_X12_cellAt x0 x1 σ = some r) (h1 : 1 ≤ (tw_zR z).frames) (h2 : 22 ≤ (tw_zR z).locals) (hcs : tw_zcells z ≤ (tw_zR z).cells ∧ tw_zslots z ≤ (tw_zR z).slots) (hst : (st.map fun v => v.category).sum ≤ 8) (_ : True) (kk : tw_Rf z res E σ (pc + 3) L (.int r :: st)) : tw_Rf z res E σ pc L (.int x1 :: .int x0 :: .ref (tw_zB z + 442) :: st) := r_callV (As := [.int x0, .int x1]) X d (tw_m_X12_cellAt  h) tw_y_X12_cellAt tw_v_X12_cellAt i hi rfl (tw_kd_lt tw_kc442 (by decide)) (tw_E12 tw_kc442) rfl ⟨rfl, rfl, h1, h2⟩ hcs hst rfl kk
def tw_P_X12_isLand (x0 : Int32) (σ : tw_Sg) : Option (Int32) :=
tw_ck (tw_ok ((8 : Int32) + x0) (tw_ln 444)) (
tw_jn (fun (a1 : Int32) =>
tw_ck (tw_01 a1) (some a1)) (fun (j2 : (Int32) → Option (Int32)) =>
if ¬ (σ 444 (Int32.toNatClampNeg ((8 : Int32) + x0))) = 0 then (j2 (0 : Int32))
else (j2 (1 : Int32))))
theorem tw_y_X12_isLand : tw_My yX12_isLand cX12_isLand 2 (some .boolean) 1 := ⟨List.mem_of_getElem? tw_w1534, List.mem_of_getElem? tw_w101, by decide +kernel, by decide +kernel, by decide +kernel⟩
theorem tw_v_X12_isLand : tw_Mv yX12_isLand "TreasureWalkModel" := ⟨List.mem_of_getElem? tw_w1533, List.mem_of_getElem? tw_w66, rfl⟩
set_option maxRecDepth 100000 in
set_option maxHeartbeats 4000000 in
theorem tw_m_X12_isLand {l : Launch} {B : Nat} {D : va_G} {C : Nat → ClassId} {S : Nat → Nat} {x0 : Int32} {σ : tw_Sg}  {r : Int32} (h : tw_P_X12_isLand x0 σ = some r) : tw_Met l B D C S yX12_isLand cX12_isLand 2 (some .boolean) ({ frames := 0, cells := 0, slots := 0, locals := 0 } : Room) [.ref (B + 442), .int x0] σ (some (.int r)) σ := by
  refine tw_metOfP (tw_P_X12_isLand x0 σ) r h (fun r => (some (.int r), σ)) (by decide +kernel) (Nat.le_of_ble_eq_true rfl) ⟨rfl, rfl⟩ ?_
  intro z el eB eD eC eS hfr hlo hcs X hret hQ
  subst el eB eD eC eS
  have X : tw_X z cX12_isLand "TreasureWalkModel" 2 := X
  show tw_Rf z r _ σ 0 [(0, .ref (tw_zB z + 442)), (1, .int x0)] []
  unfold tw_P_X12_isLand
  refine r_aload_n X dX12_isLand_0 rfl 0 rfl ?_
  refine tw_g12_8 (k := 442) (v := .ref (tw_zB z + 444)) X dX12_isLand_1 _ tw_w1260 tw_kc442 rfl ?_
  refine r_bipush X dX12_isLand_4 (v := (8 : Int32)) (by decide) ?_
  refine r_iload_n X dX12_isLand_6 rfl 1 rfl ?_
  refine r_iadd X dX12_isLand_7 ?_
  refine r_iald (k := 444) X dX12_isLand_8 tw_kc444 ?_
  refine r_jn (α := Int32) (σJ := fun a1 => σ) (pcJ := 17) (LJ := fun a1 => []) (stJ := fun a1 => [.int a1]) (ok := fun a1 => True) (fun a1 hoka1 => ?_) (fun j2 hj2 => ?_)
  ·
    exact r_zret X dX12_isLand_17 hret hQ rfl
  refine r_if_ne X dX12_isLand_9 (tgt := 16) (by decide) ?_ ?_
  ·
    refine r_iconst X dX12_isLand_16 (v := (0 : Int32)) (by decide) ?_
    exact tw_Rf.sub [] rfl (hj2 (0 : Int32) trivial)
  ·
    refine r_iconst X dX12_isLand_12 (v := (1 : Int32)) (by decide) ?_
    refine r_goto X dX12_isLand_13 (tgt := 17) (by decide) ?_
    exact tw_Rf.sub [] rfl (hj2 (1 : Int32) trivial)
theorem tw_c_X12_isLand {ρ : Type} {z : tw_Z} {cc : ByteArray} {own : String} {nL pc : Nat} {σ : tw_Sg} {L : List (Nat × Value)} {st : List Value} {ix : Nat} {x0 : Int32} (X : tw_X z cc own nL) (d : decode cc pc = .ok (.invokevirtual ix, 3)) (i : Nat) (hi : lw_tbl[i]? = some (.methodLink own ix yX12_isLand))  {res : ρ} {E : Option ρ} {r : Int32} (h : tw_P_X12_isLand x0 σ = some r) (h1 : 1 ≤ (tw_zR z).frames) (h2 : 21 ≤ (tw_zR z).locals) (hcs : tw_zcells z ≤ (tw_zR z).cells ∧ tw_zslots z ≤ (tw_zR z).slots) (hst : (st.map fun v => v.category).sum ≤ 8) (_ : True) (kk : tw_Rf z res E σ (pc + 3) L (.int r :: st)) : tw_Rf z res E σ pc L (.int x0 :: .ref (tw_zB z + 442) :: st) := r_callV (As := [.int x0]) X d (tw_m_X12_isLand  h) tw_y_X12_isLand tw_v_X12_isLand i hi rfl (tw_kd_lt tw_kc442 (by decide)) (tw_E12 tw_kc442) rfl ⟨rfl, rfl, h1, h2⟩ hcs hst rfl kk
def tw_P_X12_eastOf (x0 : Int32) (σ : tw_Sg) : Option (Int32) :=
tw_ck (!decide ((4 : Int32) = 0)) (
tw_jn (fun (a1 : Int32) =>
some a1) (fun (j2 : (Int32) → Option (Int32)) =>
if ¬ (x0 - x0 / (4 : Int32) * (4 : Int32)) = 0 then (if (4 : Int32) ≤ x0 then (j2 (-1 : Int32))
else (j2 (1 : Int32)))
else (j2 (0 : Int32))))
theorem tw_y_X12_eastOf : tw_My yX12_eastOf cX12_eastOf 1 (some .int) 1 := ⟨List.mem_of_getElem? tw_w1572, List.mem_of_getElem? tw_w101, by decide +kernel, by decide +kernel, by decide +kernel⟩
theorem tw_v_X12_eastOf : tw_Ms yX12_eastOf := List.mem_of_getElem? tw_w1571
set_option maxRecDepth 100000 in
set_option maxHeartbeats 4000000 in
theorem tw_m_X12_eastOf {l : Launch} {B : Nat} {D : va_G} {C : Nat → ClassId} {S : Nat → Nat} {x0 : Int32} {σ : tw_Sg}  {r : Int32} (h : tw_P_X12_eastOf x0 σ = some r) : tw_Met l B D C S yX12_eastOf cX12_eastOf 1 (some .int) ({ frames := 0, cells := 0, slots := 0, locals := 0 } : Room) [.int x0] σ (some (.int r)) σ := by
  refine tw_metOfP (tw_P_X12_eastOf x0 σ) r h (fun r => (some (.int r), σ)) (by decide +kernel) (Nat.le_of_ble_eq_true rfl) ⟨rfl, rfl⟩ ?_
  intro z el eB eD eC eS hfr hlo hcs X hret hQ
  subst el eB eD eC eS
  have X : tw_X z cX12_eastOf "TreasureWalkModel" 1 := X
  show tw_Rf z r _ σ 0 [(0, .int x0)] []
  unfold tw_P_X12_eastOf
  refine r_iload_n X dX12_eastOf_0 rfl 0 rfl ?_
  refine r_iconst X dX12_eastOf_1 (v := (4 : Int32)) (by decide) ?_
  refine r_irem X dX12_eastOf_2 ?_
  refine r_jn (α := Int32) (σJ := fun a1 => σ) (pcJ := 20) (LJ := fun a1 => []) (stJ := fun a1 => [.int a1]) (ok := fun a1 => True) (fun a1 hoka1 => ?_) (fun j2 hj2 => ?_)
  ·
    exact r_iret X dX12_eastOf_20 hret hQ rfl
  refine r_if_ne X dX12_eastOf_3 (tgt := 10) (by decide) ?_ ?_
  ·
    refine r_iload_n X dX12_eastOf_10 rfl 0 rfl ?_
    refine r_iconst X dX12_eastOf_11 (v := (4 : Int32)) (by decide) ?_
    refine r_icmp_ge X dX12_eastOf_12 (tgt := 19) (by decide) ?_ ?_
    ·
      refine r_iconst X dX12_eastOf_19 (v := (-1 : Int32)) (by decide) ?_
      exact tw_Rf.sub [] rfl (hj2 (-1 : Int32) trivial)
    ·
      refine r_iconst X dX12_eastOf_15 (v := (1 : Int32)) (by decide) ?_
      refine r_goto X dX12_eastOf_16 (tgt := 20) (by decide) ?_
      exact tw_Rf.sub [] rfl (hj2 (1 : Int32) trivial)
  ·
    refine r_iconst X dX12_eastOf_6 (v := (0 : Int32)) (by decide) ?_
    refine r_goto X dX12_eastOf_7 (tgt := 20) (by decide) ?_
    exact tw_Rf.sub [] rfl (hj2 (0 : Int32) trivial)
theorem tw_c_X12_eastOf {ρ : Type} {z : tw_Z} {cc : ByteArray} {own : String} {nL pc : Nat} {σ : tw_Sg} {L : List (Nat × Value)} {st : List Value} {ix : Nat} {x0 : Int32} (X : tw_X z cc own nL) (d : decode cc pc = .ok (.invokestatic ix, 3)) (i : Nat) (hi : lw_tbl[i]? = some (.methodLink own ix yX12_eastOf))  {res : ρ} {E : Option ρ} {r : Int32} (h : tw_P_X12_eastOf x0 σ = some r) (h1 : 1 ≤ (tw_zR z).frames) (h2 : 20 ≤ (tw_zR z).locals) (hcs : tw_zcells z ≤ (tw_zR z).cells ∧ tw_zslots z ≤ (tw_zR z).slots) (hst : (st.map fun v => v.category).sum ≤ 8) (_ : True) (kk : tw_Rf z res E σ (pc + 3) L (.int r :: st)) : tw_Rf z res E σ pc L (.int x0 :: st) := r_callS (As := [.int x0]) X d (tw_m_X12_eastOf  h) tw_y_X12_eastOf tw_v_X12_eastOf i hi rfl ⟨rfl, rfl, h1, h2⟩ hcs hst rfl kk
def tw_P_X12_southOf (x0 : Int32) (σ : tw_Sg) : Option (Int32) :=
tw_ck (!decide ((4 : Int32) = 0)) (
tw_jn (fun (a1 : Int32) =>
some a1) (fun (j2 : (Int32) → Option (Int32)) =>
if ¬ (x0 - x0 / (4 : Int32) * (4 : Int32)) = (2 : Int32) then (tw_jn (fun (a3 : Unit) =>
j2 (-1 : Int32)) (fun (j4 : (Unit) → Option (Int32)) =>
if x0 ≤ (2 : Int32) then (j4 ())
else (if (6 : Int32) ≤ x0 then (j4 ())
else (j2 (1 : Int32)))))
else (j2 (0 : Int32))))
theorem tw_y_X12_southOf : tw_My yX12_southOf cX12_southOf 1 (some .int) 1 := ⟨List.mem_of_getElem? tw_w1575, List.mem_of_getElem? tw_w101, by decide +kernel, by decide +kernel, by decide +kernel⟩
theorem tw_v_X12_southOf : tw_Ms yX12_southOf := List.mem_of_getElem? tw_w1574
set_option maxRecDepth 100000 in
set_option maxHeartbeats 4000000 in
theorem tw_m_X12_southOf {l : Launch} {B : Nat} {D : va_G} {C : Nat → ClassId} {S : Nat → Nat} {x0 : Int32} {σ : tw_Sg}  {r : Int32} (h : tw_P_X12_southOf x0 σ = some r) : tw_Met l B D C S yX12_southOf cX12_southOf 1 (some .int) ({ frames := 0, cells := 0, slots := 0, locals := 0 } : Room) [.int x0] σ (some (.int r)) σ := by
  refine tw_metOfP (tw_P_X12_southOf x0 σ) r h (fun r => (some (.int r), σ)) (by decide +kernel) (Nat.le_of_ble_eq_true rfl) ⟨rfl, rfl⟩ ?_
  intro z el eB eD eC eS hfr hlo hcs X hret hQ
  subst el eB eD eC eS
  have X : tw_X z cX12_southOf "TreasureWalkModel" 1 := X
  show tw_Rf z r _ σ 0 [(0, .int x0)] []
  unfold tw_P_X12_southOf
  refine r_iload_n X dX12_southOf_0 rfl 0 rfl ?_
  refine r_iconst X dX12_southOf_1 (v := (4 : Int32)) (by decide) ?_
  refine r_irem X dX12_southOf_2 ?_
  refine r_iconst X dX12_southOf_3 (v := (2 : Int32)) (by decide) ?_
  refine r_jn (α := Int32) (σJ := fun a1 => σ) (pcJ := 27) (LJ := fun a1 => []) (stJ := fun a1 => [.int a1]) (ok := fun a1 => True) (fun a1 hoka1 => ?_) (fun j2 hj2 => ?_)
  ·
    exact r_iret X dX12_southOf_27 hret hQ rfl
  refine r_icmp_ne X dX12_southOf_4 (tgt := 11) (by decide) ?_ ?_
  ·
    refine r_iload_n X dX12_southOf_11 rfl 0 rfl ?_
    refine r_iconst X dX12_southOf_12 (v := (2 : Int32)) (by decide) ?_
    refine r_jn (α := Unit) (σJ := fun a3 => σ) (pcJ := 26) (LJ := fun a3 => []) (stJ := fun a3 => []) (ok := fun a3 => True) (fun a3 hoka3 => ?_) (fun j4 hj4 => ?_)
    ·
      refine r_iconst X dX12_southOf_26 (v := (-1 : Int32)) (by decide) ?_
      exact hj2 (-1 : Int32) trivial
    refine r_icmp_le X dX12_southOf_13 (tgt := 26) (by decide) ?_ ?_
    ·
      exact tw_Rf.sub [] rfl (hj4 () trivial)
    ·
      refine r_iload_n X dX12_southOf_16 rfl 0 rfl ?_
      refine r_bipush X dX12_southOf_17 (v := (6 : Int32)) (by decide) ?_
      refine r_icmp_ge X dX12_southOf_19 (tgt := 26) (by decide) ?_ ?_
      ·
        exact tw_Rf.sub [] rfl (hj4 () trivial)
      ·
        refine r_iconst X dX12_southOf_22 (v := (1 : Int32)) (by decide) ?_
        refine r_goto X dX12_southOf_23 (tgt := 27) (by decide) ?_
        exact tw_Rf.sub [] rfl (hj2 (1 : Int32) trivial)
  ·
    refine r_iconst X dX12_southOf_7 (v := (0 : Int32)) (by decide) ?_
    refine r_goto X dX12_southOf_8 (tgt := 27) (by decide) ?_
    exact tw_Rf.sub [] rfl (hj2 (0 : Int32) trivial)
theorem tw_c_X12_southOf {ρ : Type} {z : tw_Z} {cc : ByteArray} {own : String} {nL pc : Nat} {σ : tw_Sg} {L : List (Nat × Value)} {st : List Value} {ix : Nat} {x0 : Int32} (X : tw_X z cc own nL) (d : decode cc pc = .ok (.invokestatic ix, 3)) (i : Nat) (hi : lw_tbl[i]? = some (.methodLink own ix yX12_southOf))  {res : ρ} {E : Option ρ} {r : Int32} (h : tw_P_X12_southOf x0 σ = some r) (h1 : 1 ≤ (tw_zR z).frames) (h2 : 20 ≤ (tw_zR z).locals) (hcs : tw_zcells z ≤ (tw_zR z).cells ∧ tw_zslots z ≤ (tw_zR z).slots) (hst : (st.map fun v => v.category).sum ≤ 8) (_ : True) (kk : tw_Rf z res E σ (pc + 3) L (.int r :: st)) : tw_Rf z res E σ pc L (.int x0 :: st) := r_callS (As := [.int x0]) X d (tw_m_X12_southOf  h) tw_y_X12_southOf tw_v_X12_southOf i hi rfl ⟨rfl, rfl, h1, h2⟩ hcs hst rfl kk
def tw_P_X12_neighbour (x0 : Int32) (x1 : Int32) (σ : tw_Sg) : Option (Int32) :=
tw_ck (tw_ok (0 : Int32) (tw_ln 444)) (
tw_ck (!decide ((σ 444 (Int32.toNatClampNeg (0 : Int32))) = 0)) (
tw_bd (tw_P_X12_eastOf x1 σ) (fun r1 =>
tw_lt ((x0 - x0 / (σ 444 (Int32.toNatClampNeg (0 : Int32))) * (σ 444 (Int32.toNatClampNeg (0 : Int32)))) + r1) (fun (v2 : Int32) =>
tw_ck (tw_ok (0 : Int32) (tw_ln 444)) (
tw_ck (!decide ((σ 444 (Int32.toNatClampNeg (0 : Int32))) = 0)) (
tw_bd (tw_P_X12_southOf x1 σ) (fun r3 =>
tw_lt ((x0 / (σ 444 (Int32.toNatClampNeg (0 : Int32)))) + r3) (fun (v4 : Int32) =>
tw_ck (tw_ok (0 : Int32) (tw_ln 444)) (
tw_bd (tw_P_X12_in v2 (0 : Int32) ((σ 444 (Int32.toNatClampNeg (0 : Int32))) - (1 : Int32)) σ) (fun r5 =>
tw_jn (fun (a6 : Unit) =>
some (-1 : Int32)) (fun (j7 : (Unit) → Option (Int32)) =>
if r5 = 0 then (j7 ())
else (tw_ck (tw_ok (1 : Int32) (tw_ln 444)) (
tw_bd (tw_P_X12_in v4 (0 : Int32) ((σ 444 (Int32.toNatClampNeg (1 : Int32))) - (1 : Int32)) σ) (fun r8 =>
if ¬ r8 = 0 then (tw_bd (tw_P_X12_cellAt v2 v4 σ) (fun r9 =>
tw_bd (tw_P_X12_isLand r9 σ) (fun r10 =>
tw_jn (fun (a11 : Int32) =>
some a11) (fun (j12 : (Int32) → Option (Int32)) =>
if r10 = 0 then (j12 (-1 : Int32))
else (tw_bd (tw_P_X12_cellAt v2 v4 σ) (fun r13 =>
j12 r13))))))
else (j7 ())))))))))))))))
theorem tw_y_X12_neighbour : tw_My yX12_neighbour cX12_neighbour 5 (some .int) 2 := ⟨List.mem_of_getElem? tw_w1569, List.mem_of_getElem? tw_w101, by decide +kernel, by decide +kernel, by decide +kernel⟩
theorem tw_v_X12_neighbour : tw_Mv yX12_neighbour "TreasureWalkModel" := ⟨List.mem_of_getElem? tw_w1568, List.mem_of_getElem? tw_w74, rfl⟩
set_option maxRecDepth 100000 in
set_option maxHeartbeats 4000000 in
theorem tw_m_X12_neighbour {l : Launch} {B : Nat} {D : va_G} {C : Nat → ClassId} {S : Nat → Nat} {x0 : Int32} {x1 : Int32} {σ : tw_Sg}  {r : Int32} (h : tw_P_X12_neighbour x0 x1 σ = some r) : tw_Met l B D C S yX12_neighbour cX12_neighbour 5 (some .int) ({ frames := 1, cells := 0, slots := 0, locals := 22 } : Room) [.ref (B + 442), .int x0, .int x1] σ (some (.int r)) σ := by
  refine tw_metOfP (tw_P_X12_neighbour x0 x1 σ) r h (fun r => (some (.int r), σ)) (by decide +kernel) (Nat.le_of_ble_eq_true rfl) ⟨rfl, rfl⟩ ?_
  intro z el eB eD eC eS hfr hlo hcs X hret hQ
  subst el eB eD eC eS
  have X : tw_X z cX12_neighbour "TreasureWalkModel" 5 := X
  show tw_Rf z r _ σ 0 [(0, .ref (tw_zB z + 442)), (1, .int x0), (2, .int x1)] []
  unfold tw_P_X12_neighbour
  refine r_iload_n X dX12_neighbour_0 rfl 1 rfl ?_
  refine r_aload_n X dX12_neighbour_1 rfl 0 rfl ?_
  refine tw_g12_8 (k := 442) (v := .ref (tw_zB z + 444)) X dX12_neighbour_2 _ tw_w1260 tw_kc442 rfl ?_
  refine r_iconst X dX12_neighbour_5 (v := (0 : Int32)) (by decide) ?_
  refine r_iald (k := 444) X dX12_neighbour_6 tw_kc444 ?_
  refine r_irem X dX12_neighbour_7 ?_
  refine r_iload_n X dX12_neighbour_8 rfl 2 rfl ?_
  refine r_bd (fun r1 hr1 => ?_)
  refine tw_c_X12_eastOf X dX12_neighbour_9 _ tw_w1570  hr1 (tw_le hfr rfl) (tw_le hlo rfl) hcs (Nat.le_of_ble_eq_true rfl) trivial ?_
  refine r_iadd X dX12_neighbour_12 ?_
  refine r_istore_n X dX12_neighbour_13 rfl (by decide) (LL := fun v2 => [(3, .int v2), (0, .ref (tw_zB z + 442)), (1, .int x0), (2, .int x1)]) (fun _ => rfl) (fun v2 => ?_)
  refine r_iload_n X dX12_neighbour_14 rfl 2 rfl ?_
  refine r_aload_n X dX12_neighbour_15 rfl 1 rfl ?_
  refine tw_g12_8 (k := 442) (v := .ref (tw_zB z + 444)) X dX12_neighbour_16 _ tw_w1260 tw_kc442 rfl ?_
  refine r_iconst X dX12_neighbour_19 (v := (0 : Int32)) (by decide) ?_
  refine r_iald (k := 444) X dX12_neighbour_20 tw_kc444 ?_
  refine r_idiv X dX12_neighbour_21 ?_
  refine r_iload_n X dX12_neighbour_22 rfl 3 rfl ?_
  refine r_bd (fun r3 hr3 => ?_)
  refine tw_c_X12_southOf X dX12_neighbour_23 _ tw_w1573  hr3 (tw_le hfr rfl) (tw_le hlo rfl) hcs (Nat.le_of_ble_eq_true rfl) trivial ?_
  refine r_iadd X dX12_neighbour_26 ?_
  refine r_istore X dX12_neighbour_27 (by decide) (LL := fun v4 => [(4, .int v4), (3, .int v2), (0, .ref (tw_zB z + 442)), (1, .int x0), (2, .int x1)]) (fun _ => rfl) (fun v4 => ?_)
  refine r_iload_n X dX12_neighbour_29 rfl 1 rfl ?_
  refine r_iconst X dX12_neighbour_30 (v := (0 : Int32)) (by decide) ?_
  refine r_aload_n X dX12_neighbour_31 rfl 2 rfl ?_
  refine tw_g12_8 (k := 442) (v := .ref (tw_zB z + 444)) X dX12_neighbour_32 _ tw_w1260 tw_kc442 rfl ?_
  refine r_iconst X dX12_neighbour_35 (v := (0 : Int32)) (by decide) ?_
  refine r_iald (k := 444) X dX12_neighbour_36 tw_kc444 ?_
  refine r_iconst X dX12_neighbour_37 (v := (1 : Int32)) (by decide) ?_
  refine r_isub X dX12_neighbour_38 ?_
  refine r_bd (fun r5 hr5 => ?_)
  refine tw_c_X12_in X dX12_neighbour_39 _ tw_w1359  hr5 (tw_le hfr rfl) (tw_le hlo rfl) hcs (Nat.le_of_ble_eq_true rfl) trivial ?_
  refine r_jn (α := Unit) (σJ := fun a6 => σ) (pcJ := 62) (LJ := fun a6 => []) (stJ := fun a6 => []) (ok := fun a6 => True) (fun a6 hoka6 => ?_) (fun j7 hj7 => ?_)
  ·
    refine r_iconst X dX12_neighbour_62 (v := (-1 : Int32)) (by decide) ?_
    exact r_iret X dX12_neighbour_63 hret hQ rfl
  refine r_if_eq X dX12_neighbour_42 (tgt := 62) (by decide) ?_ ?_
  ·
    exact tw_Rf.sub [] rfl (hj7 () trivial)
  ·
    refine r_iload X dX12_neighbour_45 0 rfl ?_
    refine r_iconst X dX12_neighbour_47 (v := (0 : Int32)) (by decide) ?_
    refine r_aload_n X dX12_neighbour_48 rfl 2 rfl ?_
    refine tw_g12_8 (k := 442) (v := .ref (tw_zB z + 444)) X dX12_neighbour_49 _ tw_w1260 tw_kc442 rfl ?_
    refine r_iconst X dX12_neighbour_52 (v := (1 : Int32)) (by decide) ?_
    refine r_iald (k := 444) X dX12_neighbour_53 tw_kc444 ?_
    refine r_iconst X dX12_neighbour_54 (v := (1 : Int32)) (by decide) ?_
    refine r_isub X dX12_neighbour_55 ?_
    refine r_bd (fun r8 hr8 => ?_)
    refine tw_c_X12_in X dX12_neighbour_56 _ tw_w1359  hr8 (tw_le hfr rfl) (tw_le hlo rfl) hcs (Nat.le_of_ble_eq_true rfl) trivial ?_
    refine r_if_ne X dX12_neighbour_59 (tgt := 64) (by decide) ?_ ?_
    ·
      refine r_aload_n X dX12_neighbour_64 rfl 2 rfl ?_
      refine r_aload_n X dX12_neighbour_65 rfl 2 rfl ?_
      refine r_iload_n X dX12_neighbour_66 rfl 1 rfl ?_
      refine r_iload X dX12_neighbour_67 0 rfl ?_
      refine r_bd (fun r9 hr9 => ?_)
      refine tw_c_X12_cellAt X dX12_neighbour_69 _ tw_w1576  hr9 (tw_le hfr rfl) (tw_le hlo rfl) hcs (Nat.le_of_ble_eq_true rfl) trivial ?_
      refine r_bd (fun r10 hr10 => ?_)
      refine tw_c_X12_isLand X dX12_neighbour_72 _ tw_w1531  hr10 (tw_le hfr rfl) (tw_le hlo rfl) hcs (Nat.le_of_ble_eq_true rfl) trivial ?_
      refine r_jn (α := Int32) (σJ := fun a11 => σ) (pcJ := 89) (LJ := fun a11 => []) (stJ := fun a11 => [.int a11]) (ok := fun a11 => True) (fun a11 hoka11 => ?_) (fun j12 hj12 => ?_)
      ·
        exact r_iret X dX12_neighbour_89 hret hQ rfl
      refine r_if_eq X dX12_neighbour_75 (tgt := 88) (by decide) ?_ ?_
      ·
        refine r_iconst X dX12_neighbour_88 (v := (-1 : Int32)) (by decide) ?_
        exact tw_Rf.sub [] rfl (hj12 (-1 : Int32) trivial)
      ·
        refine r_aload_n X dX12_neighbour_78 rfl 2 rfl ?_
        refine r_iload_n X dX12_neighbour_79 rfl 1 rfl ?_
        refine r_iload X dX12_neighbour_80 0 rfl ?_
        refine r_bd (fun r13 hr13 => ?_)
        refine tw_c_X12_cellAt X dX12_neighbour_82 _ tw_w1576  hr13 (tw_le hfr rfl) (tw_le hlo rfl) hcs (Nat.le_of_ble_eq_true rfl) trivial ?_
        refine r_goto X dX12_neighbour_85 (tgt := 89) (by decide) ?_
        exact tw_Rf.sub [] rfl (hj12 r13 trivial)
    ·
      exact tw_Rf.sub [] rfl (hj7 () trivial)
theorem tw_c_X12_neighbour {ρ : Type} {z : tw_Z} {cc : ByteArray} {own : String} {nL pc : Nat} {σ : tw_Sg} {L : List (Nat × Value)} {st : List Value} {ix : Nat} {x0 : Int32} {x1 : Int32} (X : tw_X z cc own nL) (d : decode cc pc = .ok (.invokevirtual ix, 3)) (i : Nat) (hi : lw_tbl[i]? = some (.methodLink own ix yX12_neighbour))  {res : ρ} {E : Option ρ} {r : Int32} (h : tw_P_X12_neighbour x0 x1 σ = some r) (h1 : 2 ≤ (tw_zR z).frames) (h2 : 46 ≤ (tw_zR z).locals) (hcs : tw_zcells z ≤ (tw_zR z).cells ∧ tw_zslots z ≤ (tw_zR z).slots) (hst : (st.map fun v => v.category).sum ≤ 8) (_ : True) (kk : tw_Rf z res E σ (pc + 3) L (.int r :: st)) : tw_Rf z res E σ pc L (.int x1 :: .int x0 :: .ref (tw_zB z + 442) :: st) := r_callV (As := [.int x0, .int x1]) X d (tw_m_X12_neighbour  h) tw_y_X12_neighbour tw_v_X12_neighbour i hi rfl (tw_kd_lt tw_kc442 (by decide)) (tw_E12 tw_kc442) rfl ⟨rfl, rfl, h1, h2⟩ hcs hst rfl kk
def tw_P_X12_step (n : Nat) (x0 : Int32) (x1 : Int32) (σ : tw_Sg) : Option (Int32) :=
tw_ck (tw_ok (0 : Int32) (tw_ln 444)) (
tw_ck (!decide ((σ 444 (Int32.toNatClampNeg (0 : Int32))) = 0)) (
tw_lt (x0 - x0 / (σ 444 (Int32.toNatClampNeg (0 : Int32))) * (σ 444 (Int32.toNatClampNeg (0 : Int32)))) (fun (v1 : Int32) =>
tw_ck (tw_ok (0 : Int32) (tw_ln 444)) (
tw_ck (!decide ((σ 444 (Int32.toNatClampNeg (0 : Int32))) = 0)) (
tw_lt (x0 / (σ 444 (Int32.toNatClampNeg (0 : Int32)))) (fun (v2 : Int32) =>
tw_lt (x1 + (24 : Int32)) (fun (v3 : Int32) =>
tw_lt (0 : Int32) (fun (v4 : Int32) =>
tw_lp (fun (k6 : (Int32 × Int32) → Option (Int32)) (a5 : Int32 × Int32) =>
tw_ck (tw_ok (2 : Int32) (tw_ln 444)) (
if (σ 444 (Int32.toNatClampNeg (2 : Int32))) ≤ a5.2 then (tw_ck (!decide ((8 : Int32) = 0)) (
tw_bd (tw_P_X12_neighbour x0 (a5.1 - a5.1 / (8 : Int32) * (8 : Int32)) σ) (fun r7 =>
some r7)))
else (tw_bd (tw_P_X12_bendAt a5.2 σ) (fun r8 =>
tw_lt r8 (fun (v9 : Int32) =>
tw_ck (tw_ok v9 (tw_ln 444)) (
tw_ck (tw_ok (v9 + (2 : Int32)) (tw_ln 444)) (
tw_bd (tw_P_X12_in v1 (σ 444 (Int32.toNatClampNeg v9)) (σ 444 (Int32.toNatClampNeg (v9 + (2 : Int32)))) σ) (fun r10 =>
tw_jn (fun (a11 : Int32) =>
tw_lt (a5.2 + (1 : Int32)) (fun (v13 : Int32) =>
k6 (a11, v13))) (fun (j12 : (Int32) → Option (Int32)) =>
if r10 = 0 then (j12 a5.1)
else (tw_ck (tw_ok (v9 + (1 : Int32)) (tw_ln 444)) (
tw_ck (tw_ok (v9 + (3 : Int32)) (tw_ln 444)) (
tw_bd (tw_P_X12_in v2 (σ 444 (Int32.toNatClampNeg (v9 + (1 : Int32)))) (σ 444 (Int32.toNatClampNeg (v9 + (3 : Int32)))) σ) (fun r14 =>
if r14 = 0 then (j12 a5.1)
else (tw_ck (tw_ok (v9 + (4 : Int32)) (tw_ln 444)) (
tw_lt (a5.1 + (σ 444 (Int32.toNatClampNeg (v9 + (4 : Int32))))) (fun (v15 : Int32) =>
j12 v15)))))))))))))))) n (v3, v4)))))))))
theorem tw_y_X12_step : tw_My yX12_step cX12_step 8 (some .int) 2 := ⟨List.mem_of_getElem? tw_w1565, List.mem_of_getElem? tw_w101, by decide +kernel, by decide +kernel, by decide +kernel⟩
theorem tw_v_X12_step : tw_Mv yX12_step "TreasureWalkModel" := ⟨List.mem_of_getElem? tw_w1564, List.mem_of_getElem? tw_w73, rfl⟩
set_option maxRecDepth 100000 in
set_option maxHeartbeats 4000000 in
theorem tw_m_X12_step {l : Launch} {B : Nat} {D : va_G} {C : Nat → ClassId} {S : Nat → Nat} {n : Nat} {x0 : Int32} {x1 : Int32} {σ : tw_Sg}  {r : Int32} (h : tw_P_X12_step n x0 x1 σ = some r) : tw_Met l B D C S yX12_step cX12_step 8 (some .int) ({ frames := 2, cells := 0, slots := 0, locals := 46 } : Room) [.ref (B + 442), .int x0, .int x1] σ (some (.int r)) σ := by
  refine tw_metOfP (tw_P_X12_step n x0 x1 σ) r h (fun r => (some (.int r), σ)) (by decide +kernel) (Nat.le_of_ble_eq_true rfl) ⟨rfl, rfl⟩ ?_
  intro z el eB eD eC eS hfr hlo hcs X hret hQ
  subst el eB eD eC eS
  have X : tw_X z cX12_step "TreasureWalkModel" 8 := X
  show tw_Rf z r _ σ 0 [(0, .ref (tw_zB z + 442)), (1, .int x0), (2, .int x1)] []
  unfold tw_P_X12_step
  refine r_iload_n X dX12_step_0 rfl 1 rfl ?_
  refine r_aload_n X dX12_step_1 rfl 0 rfl ?_
  refine tw_g12_8 (k := 442) (v := .ref (tw_zB z + 444)) X dX12_step_2 _ tw_w1260 tw_kc442 rfl ?_
  refine r_iconst X dX12_step_5 (v := (0 : Int32)) (by decide) ?_
  refine r_iald (k := 444) X dX12_step_6 tw_kc444 ?_
  refine r_irem X dX12_step_7 ?_
  refine r_istore_n X dX12_step_8 rfl (by decide) (LL := fun v1 => [(3, .int v1), (0, .ref (tw_zB z + 442)), (1, .int x0), (2, .int x1)]) (fun _ => rfl) (fun v1 => ?_)
  refine r_iload_n X dX12_step_9 rfl 2 rfl ?_
  refine r_aload_n X dX12_step_10 rfl 1 rfl ?_
  refine tw_g12_8 (k := 442) (v := .ref (tw_zB z + 444)) X dX12_step_11 _ tw_w1260 tw_kc442 rfl ?_
  refine r_iconst X dX12_step_14 (v := (0 : Int32)) (by decide) ?_
  refine r_iald (k := 444) X dX12_step_15 tw_kc444 ?_
  refine r_idiv X dX12_step_16 ?_
  refine r_istore X dX12_step_17 (by decide) (LL := fun v2 => [(4, .int v2), (3, .int v1), (0, .ref (tw_zB z + 442)), (1, .int x0), (2, .int x1)]) (fun _ => rfl) (fun v2 => ?_)
  refine r_iload_n X dX12_step_19 rfl 4 rfl ?_
  refine r_bipush X dX12_step_20 (v := (24 : Int32)) (by decide) ?_
  refine r_iadd X dX12_step_22 ?_
  refine r_istore X dX12_step_23 (by decide) (LL := fun v3 => [(5, .int v3), (4, .int v2), (3, .int v1), (0, .ref (tw_zB z + 442)), (1, .int x0), (2, .int x1)]) (fun _ => rfl) (fun v3 => ?_)
  refine r_iconst X dX12_step_25 (v := (0 : Int32)) (by decide) ?_
  refine r_istore X dX12_step_26 (by decide) (LL := fun v4 => [(6, .int v4), (5, .int v3), (4, .int v2), (3, .int v1), (0, .ref (tw_zB z + 442)), (1, .int x0), (2, .int x1)]) (fun _ => rfl) (fun v4 => ?_)
  refine tw_Rf.sub [0, 1, 2, 3, 4, 5] rfl ?_
  refine r_lp (α := Int32 × Int32) (σJ := fun a5 => σ) (pcJ := 28) (LJ := fun a5 => [(6, .int a5.2), (5, .int a5.1), (4, .int v2), (3, .int v1), (0, .ref (tw_zB z + 442)), (1, .int x0)]) (stJ := fun a5 => []) (fun k6 hk6 a5 => ?_) n (v3, v4)
  refine r_iload X dX12_step_28 0 rfl ?_
  refine r_aload_n X dX12_step_30 rfl 4 rfl ?_
  refine tw_g12_8 (k := 442) (v := .ref (tw_zB z + 444)) X dX12_step_31 _ tw_w1260 tw_kc442 rfl ?_
  refine r_iconst X dX12_step_34 (v := (2 : Int32)) (by decide) ?_
  refine r_iald (k := 444) X dX12_step_35 tw_kc444 ?_
  refine r_icmp_ge X dX12_step_36 (tgt := 115) (by decide) ?_ ?_
  ·
    refine r_aload_n X dX12_step_115 rfl 4 rfl ?_
    refine r_iload_n X dX12_step_116 rfl 5 rfl ?_
    refine r_iload X dX12_step_117 1 rfl ?_
    refine r_bipush X dX12_step_119 (v := (8 : Int32)) (by decide) ?_
    refine r_irem X dX12_step_121 ?_
    refine r_bd (fun r7 hr7 => ?_)
    refine tw_c_X12_neighbour X dX12_step_122 _ tw_w1566  hr7 (tw_le hfr rfl) (tw_le hlo rfl) hcs (Nat.le_of_ble_eq_true rfl) trivial ?_
    exact r_iret X dX12_step_125 hret hQ rfl
  ·
    refine r_iload X dX12_step_39 0 rfl ?_
    refine r_bd (fun r8 hr8 => ?_)
    refine tw_c_X12_bendAt X dX12_step_41 _ tw_w1434  hr8 (tw_le hfr rfl) (tw_le hlo rfl) hcs (Nat.le_of_ble_eq_true rfl) trivial ?_
    refine r_istore X dX12_step_44 (by decide) (LL := fun v9 => [(7, .int v9), (6, .int a5.2), (5, .int a5.1), (4, .int v2), (3, .int v1), (0, .ref (tw_zB z + 442)), (1, .int x0)]) (fun _ => rfl) (fun v9 => ?_)
    refine r_iload_n X dX12_step_46 rfl 4 rfl ?_
    refine r_aload_n X dX12_step_47 rfl 5 rfl ?_
    refine tw_g12_8 (k := 442) (v := .ref (tw_zB z + 444)) X dX12_step_48 _ tw_w1260 tw_kc442 rfl ?_
    refine r_iload X dX12_step_51 0 rfl ?_
    refine r_iald (k := 444) X dX12_step_53 tw_kc444 ?_
    refine r_aload_n X dX12_step_54 rfl 5 rfl ?_
    refine tw_g12_8 (k := 442) (v := .ref (tw_zB z + 444)) X dX12_step_55 _ tw_w1260 tw_kc442 rfl ?_
    refine r_iload X dX12_step_58 0 rfl ?_
    refine r_iconst X dX12_step_60 (v := (2 : Int32)) (by decide) ?_
    refine r_iadd X dX12_step_61 ?_
    refine r_iald (k := 444) X dX12_step_62 tw_kc444 ?_
    refine r_bd (fun r10 hr10 => ?_)
    refine tw_c_X12_in X dX12_step_63 _ tw_w1359  hr10 (tw_le hfr rfl) (tw_le hlo rfl) hcs (Nat.le_of_ble_eq_true rfl) trivial ?_
    refine r_jn (α := Int32) (σJ := fun a11 => σ) (pcJ := 109) (LJ := fun a11 => [(6, .int a5.2), (5, .int a11), (4, .int v2), (3, .int v1), (0, .ref (tw_zB z + 442)), (1, .int x0)]) (stJ := fun a11 => []) (ok := fun a11 => True) (fun a11 hoka11 => ?_) (fun j12 hj12 => ?_)
    ·
      refine r_iinc X dX12_step_109 0 rfl (v := (1 : Int32)) (by decide) (by decide) (LL := fun v13 => [(6, .int v13), (5, .int a11), (4, .int v2), (3, .int v1), (0, .ref (tw_zB z + 442)), (1, .int x0)]) (fun _ => rfl) (fun v13 => ?_)
      refine r_goto X dX12_step_112 (tgt := 28) (by decide) ?_
      exact hk6 (a11, v13)
    refine r_if_eq X dX12_step_66 (tgt := 109) (by decide) ?_ ?_
    ·
      exact tw_Rf.sub [1, 2, 3, 4, 5, 6] rfl (hj12 a5.1 trivial)
    ·
      refine r_iload X dX12_step_69 3 rfl ?_
      refine r_aload_n X dX12_step_71 rfl 5 rfl ?_
      refine tw_g12_8 (k := 442) (v := .ref (tw_zB z + 444)) X dX12_step_72 _ tw_w1260 tw_kc442 rfl ?_
      refine r_iload X dX12_step_75 0 rfl ?_
      refine r_iconst X dX12_step_77 (v := (1 : Int32)) (by decide) ?_
      refine r_iadd X dX12_step_78 ?_
      refine r_iald (k := 444) X dX12_step_79 tw_kc444 ?_
      refine r_aload_n X dX12_step_80 rfl 5 rfl ?_
      refine tw_g12_8 (k := 442) (v := .ref (tw_zB z + 444)) X dX12_step_81 _ tw_w1260 tw_kc442 rfl ?_
      refine r_iload X dX12_step_84 0 rfl ?_
      refine r_iconst X dX12_step_86 (v := (3 : Int32)) (by decide) ?_
      refine r_iadd X dX12_step_87 ?_
      refine r_iald (k := 444) X dX12_step_88 tw_kc444 ?_
      refine r_bd (fun r14 hr14 => ?_)
      refine tw_c_X12_in X dX12_step_89 _ tw_w1359  hr14 (tw_le hfr rfl) (tw_le hlo rfl) hcs (Nat.le_of_ble_eq_true rfl) trivial ?_
      refine r_if_eq X dX12_step_92 (tgt := 109) (by decide) ?_ ?_
      ·
        exact tw_Rf.sub [1, 2, 3, 4, 5, 6] rfl (hj12 a5.1 trivial)
      ·
        refine r_iload X dX12_step_95 2 rfl ?_
        refine r_aload_n X dX12_step_97 rfl 5 rfl ?_
        refine tw_g12_8 (k := 442) (v := .ref (tw_zB z + 444)) X dX12_step_98 _ tw_w1260 tw_kc442 rfl ?_
        refine r_iload X dX12_step_101 0 rfl ?_
        refine r_iconst X dX12_step_103 (v := (4 : Int32)) (by decide) ?_
        refine r_iadd X dX12_step_104 ?_
        refine r_iald (k := 444) X dX12_step_105 tw_kc444 ?_
        refine r_iadd X dX12_step_106 ?_
        refine r_istore X dX12_step_107 (by decide) (LL := fun v15 => [(5, .int v15), (7, .int v9), (6, .int a5.2), (4, .int v2), (3, .int v1), (0, .ref (tw_zB z + 442)), (1, .int x0)]) (fun _ => rfl) (fun v15 => ?_)
        exact tw_Rf.sub [2, 0, 3, 4, 5, 6] rfl (hj12 v15 trivial)
theorem tw_c_X12_step {ρ : Type} {z : tw_Z} {cc : ByteArray} {own : String} {nL pc : Nat} {σ : tw_Sg} {L : List (Nat × Value)} {st : List Value} {ix : Nat} {n : Nat} {x0 : Int32} {x1 : Int32} (X : tw_X z cc own nL) (d : decode cc pc = .ok (.invokevirtual ix, 3)) (i : Nat) (hi : lw_tbl[i]? = some (.methodLink own ix yX12_step))  {res : ρ} {E : Option ρ} {r : Int32} (h : tw_P_X12_step n x0 x1 σ = some r) (h1 : 3 ≤ (tw_zR z).frames) (h2 : 73 ≤ (tw_zR z).locals) (hcs : tw_zcells z ≤ (tw_zR z).cells ∧ tw_zslots z ≤ (tw_zR z).slots) (hst : (st.map fun v => v.category).sum ≤ 8) (_ : True) (kk : tw_Rf z res E σ (pc + 3) L (.int r :: st)) : tw_Rf z res E σ pc L (.int x1 :: .int x0 :: .ref (tw_zB z + 442) :: st) := r_callV (As := [.int x0, .int x1]) X d (tw_m_X12_step  h) tw_y_X12_step tw_v_X12_step i hi rfl (tw_kd_lt tw_kc442 (by decide)) (tw_E12 tw_kc442) rfl ⟨rfl, rfl, h1, h2⟩ hcs hst rfl kk
def tw_P_X12_layEnds (n : Nat) (x0 : Int32) (x1 : Int32) (σ : tw_Sg) : Option (Int32 × tw_Sg) :=
tw_ck (tw_ok (x0 + (0 : Int32)) (tw_ln 444)) (
tw_lt (σ 444 (Int32.toNatClampNeg (x0 + (0 : Int32)))) (fun (v1 : Int32) =>
tw_jn (fun (a2 : Int32) =>
tw_lt a2 (fun (v4 : Int32) =>
tw_jn (fun (a5 : Int32) =>
tw_lt a5 (fun (v7 : Int32) =>
tw_lt (0 : Int32) (fun (v8 : Int32) =>
tw_lt x1 (fun (v9 : Int32) =>
tw_lt (0 : Int32) (fun (v10 : Int32) =>
tw_lp (fun (k12 : (Int32 × Int32 × Int32 × tw_Sg) → Option (Int32 × tw_Sg)) (a11 : Int32 × Int32 × Int32 × tw_Sg) =>
tw_jn (fun (a13 : Unit) =>
some (a11.1, a11.2.2.2)) (fun (j14 : (Unit) → Option (Int32 × tw_Sg)) =>
if v4 < a11.2.2.1 then (j14 ())
else (if a11.2.1 = (-1 : Int32) then (j14 ())
else (tw_ck (tw_ok (x0 + (3 : Int32)) (tw_ln 444)) (
tw_bd (tw_P_X12_step n a11.2.1 (a11.2.2.2 444 (Int32.toNatClampNeg (x0 + (3 : Int32)))) a11.2.2.2) (fun r15 =>
tw_lt r15 (fun (v16 : Int32) =>
tw_jn (fun (a17 : Int32) =>
tw_lt a17 (fun (v19 : Int32) =>
tw_jn (fun (a20 : Int32 × tw_Sg) =>
tw_lt v16 (fun (v22 : Int32) =>
tw_lt (a11.2.2.1 + (1 : Int32)) (fun (v23 : Int32) =>
k12 (a20.1, v22, v23, a20.2)))) (fun (j21 : (Int32 × tw_Sg) → Option (Int32 × tw_Sg)) =>
if v19 = 0 then (j21 (a11.1, a11.2.2.2))
else (tw_ck (tw_ok a11.1 (tw_ln 455)) (tw_lt (tw_up a11.2.2.2 455 (Int32.toNatClampNeg a11.1) a11.2.1) (fun (σ24 : tw_Sg) =>
tw_ck (tw_ok a11.1 (tw_ln 456)) (tw_lt (tw_up σ24 456 (Int32.toNatClampNeg a11.1) a11.2.2.1) (fun (σ25 : tw_Sg) =>
tw_lt (a11.1 + (1 : Int32)) (fun (v26 : Int32) =>
if v1 = 0 then (j21 (v26, σ25))
else (some (v26, σ25))))))))))) (fun (j18 : (Int32) → Option (Int32 × tw_Sg)) =>
if ¬ v1 = 0 then (if ¬ v1 = (1 : Int32) then (tw_jn (fun (a27 : Unit) =>
j18 (0 : Int32)) (fun (j28 : (Unit) → Option (Int32 × tw_Sg)) =>
if ¬ v16 = (-1 : Int32) then (j28 ())
else (if (60 : Int32) ≤ a11.2.2.1 then (j28 ())
else (j18 (1 : Int32)))))
else (tw_ck (tw_ok (x0 + (1 : Int32)) (tw_ln 444)) (
tw_ck (tw_ok ((808 : Int32) + (a11.2.2.2 444 (Int32.toNatClampNeg (x0 + (1 : Int32))))) (tw_ln 444)) (
if ¬ a11.2.1 = (a11.2.2.2 444 (Int32.toNatClampNeg ((808 : Int32) + (a11.2.2.2 444 (Int32.toNatClampNeg (x0 + (1 : Int32))))))) then (j18 (0 : Int32))
else (j18 (1 : Int32))))))
else (if a11.2.2.1 < v7 then (j18 (0 : Int32))
else (j18 (1 : Int32))))))))))) n (v8, v9, v10, σ)))))) (fun (j6 : (Int32) → Option (Int32 × tw_Sg)) =>
if ¬ v1 = 0 then (j6 (0 : Int32))
else (tw_ck (tw_ok (x0 + (1 : Int32)) (tw_ln 444)) (
tw_ck (tw_ok (x0 + (2 : Int32)) (tw_ln 444)) (
j6 ((σ 444 (Int32.toNatClampNeg (x0 + (1 : Int32)))) - (σ 444 (Int32.toNatClampNeg (x0 + (2 : Int32))))))))))) (fun (j3 : (Int32) → Option (Int32 × tw_Sg)) =>
if ¬ v1 = 0 then (j3 (60 : Int32))
else (tw_ck (tw_ok (x0 + (1 : Int32)) (tw_ln 444)) (
tw_ck (tw_ok (x0 + (2 : Int32)) (tw_ln 444)) (
j3 ((σ 444 (Int32.toNatClampNeg (x0 + (1 : Int32)))) + (σ 444 (Int32.toNatClampNeg (x0 + (2 : Int32)))))))))))
theorem tw_y_X12_layEnds : tw_My yX12_layEnds cX12_layEnds 11 (some .int) 2 := ⟨List.mem_of_getElem? tw_w1561, List.mem_of_getElem? tw_w101, by decide +kernel, by decide +kernel, by decide +kernel⟩
theorem tw_v_X12_layEnds : tw_Mv yX12_layEnds "TreasureWalkModel" := ⟨List.mem_of_getElem? tw_w1560, List.mem_of_getElem? tw_w72, rfl⟩
set_option maxRecDepth 100000 in
set_option maxHeartbeats 4000000 in
theorem tw_m_X12_layEnds {l : Launch} {B : Nat} {D : va_G} {C : Nat → ClassId} {S : Nat → Nat} {n : Nat} {x0 : Int32} {x1 : Int32} {σ : tw_Sg}  {r : Int32 × tw_Sg} (h : tw_P_X12_layEnds n x0 x1 σ = some r) : tw_Met l B D C S yX12_layEnds cX12_layEnds 11 (some .int) ({ frames := 3, cells := 0, slots := 0, locals := 73 } : Room) [.ref (B + 442), .int x0, .int x1] σ (some (.int r.1)) r.2 := by
  refine tw_metOfP (tw_P_X12_layEnds n x0 x1 σ) r h (fun r => (some (.int r.1), r.2)) (by decide +kernel) (Nat.le_of_ble_eq_true rfl) ⟨rfl, rfl⟩ ?_
  intro z el eB eD eC eS hfr hlo hcs X hret hQ
  subst el eB eD eC eS
  have X : tw_X z cX12_layEnds "TreasureWalkModel" 11 := X
  show tw_Rf z r _ σ 0 [(0, .ref (tw_zB z + 442)), (1, .int x0), (2, .int x1)] []
  unfold tw_P_X12_layEnds
  refine r_aload_n X dX12_layEnds_0 rfl 0 rfl ?_
  refine tw_g12_8 (k := 442) (v := .ref (tw_zB z + 444)) X dX12_layEnds_1 _ tw_w1260 tw_kc442 rfl ?_
  refine r_iload_n X dX12_layEnds_4 rfl 1 rfl ?_
  refine r_iconst X dX12_layEnds_5 (v := (0 : Int32)) (by decide) ?_
  refine r_iadd X dX12_layEnds_6 ?_
  refine r_iald (k := 444) X dX12_layEnds_7 tw_kc444 ?_
  refine r_istore_n X dX12_layEnds_8 rfl (by decide) (LL := fun v1 => [(3, .int v1), (0, .ref (tw_zB z + 442)), (1, .int x0), (2, .int x1)]) (fun _ => rfl) (fun v1 => ?_)
  refine r_iload_n X dX12_layEnds_9 rfl 0 rfl ?_
  refine r_jn (α := Int32) (σJ := fun a2 => σ) (pcJ := 35) (LJ := fun a2 => [(3, .int v1), (0, .ref (tw_zB z + 442)), (1, .int x0), (2, .int x1)]) (stJ := fun a2 => [.int a2]) (ok := fun a2 => True) (fun a2 hoka2 => ?_) (fun j3 hj3 => ?_)
  ·
    refine r_istore X dX12_layEnds_35 (by decide) (LL := fun v4 => [(4, .int v4), (3, .int v1), (0, .ref (tw_zB z + 442)), (1, .int x0), (2, .int x1)]) (fun _ => rfl) (fun v4 => ?_)
    refine r_iload_n X dX12_layEnds_37 rfl 1 rfl ?_
    refine r_jn (α := Int32) (σJ := fun a5 => σ) (pcJ := 62) (LJ := fun a5 => [(4, .int v4), (3, .int v1), (0, .ref (tw_zB z + 442)), (1, .int x0), (2, .int x1)]) (stJ := fun a5 => [.int a5]) (ok := fun a5 => True) (fun a5 hoka5 => ?_) (fun j6 hj6 => ?_)
    ·
      refine r_istore X dX12_layEnds_62 (by decide) (LL := fun v7 => [(5, .int v7), (4, .int v4), (3, .int v1), (0, .ref (tw_zB z + 442)), (1, .int x0), (2, .int x1)]) (fun _ => rfl) (fun v7 => ?_)
      refine r_iconst X dX12_layEnds_64 (v := (0 : Int32)) (by decide) ?_
      refine r_istore X dX12_layEnds_65 (by decide) (LL := fun v8 => [(6, .int v8), (5, .int v7), (4, .int v4), (3, .int v1), (0, .ref (tw_zB z + 442)), (1, .int x0), (2, .int x1)]) (fun _ => rfl) (fun v8 => ?_)
      refine r_iload_n X dX12_layEnds_67 rfl 6 rfl ?_
      refine r_istore X dX12_layEnds_68 (by decide) (LL := fun v9 => [(7, .int v9), (6, .int v8), (5, .int v7), (4, .int v4), (3, .int v1), (0, .ref (tw_zB z + 442)), (1, .int x0), (2, .int x1)]) (fun _ => rfl) (fun v9 => ?_)
      refine r_iconst X dX12_layEnds_70 (v := (0 : Int32)) (by decide) ?_
      refine r_istore X dX12_layEnds_71 (by decide) (LL := fun v10 => [(8, .int v10), (7, .int v9), (6, .int v8), (5, .int v7), (4, .int v4), (3, .int v1), (0, .ref (tw_zB z + 442)), (1, .int x0), (2, .int x1)]) (fun _ => rfl) (fun v10 => ?_)
      refine tw_Rf.sub [0, 1, 2, 3, 4, 5, 6, 7] rfl ?_
      refine r_lp (α := Int32 × Int32 × Int32 × tw_Sg) (σJ := fun a11 => a11.2.2.2) (pcJ := 73) (LJ := fun a11 => [(8, .int a11.2.2.1), (7, .int a11.2.1), (6, .int a11.1), (5, .int v7), (4, .int v4), (3, .int v1), (0, .ref (tw_zB z + 442)), (1, .int x0)]) (stJ := fun a11 => []) (fun k12 hk12 a11 => ?_) n (v8, v9, v10, σ)
      refine r_iload X dX12_layEnds_73 0 rfl ?_
      refine r_iload X dX12_layEnds_75 4 rfl ?_
      refine r_jn (α := Unit) (σJ := fun a13 => a11.2.2.2) (pcJ := 219) (LJ := fun a13 => [(6, .int a11.1)]) (stJ := fun a13 => []) (ok := fun a13 => True) (fun a13 hoka13 => ?_) (fun j14 hj14 => ?_)
      ·
        refine r_iload X dX12_layEnds_219 0 rfl ?_
        exact r_iret X dX12_layEnds_221 hret hQ rfl
      refine r_icmp_gt X dX12_layEnds_77 (tgt := 219) (by decide) ?_ ?_
      ·
        exact tw_Rf.sub [2] rfl (hj14 () trivial)
      ·
        refine r_iload X dX12_layEnds_80 1 rfl ?_
        refine r_iconst X dX12_layEnds_82 (v := (-1 : Int32)) (by decide) ?_
        refine r_icmp_eq X dX12_layEnds_83 (tgt := 219) (by decide) ?_ ?_
        ·
          exact tw_Rf.sub [2] rfl (hj14 () trivial)
        ·
          refine r_aload_n X dX12_layEnds_86 rfl 6 rfl ?_
          refine r_iload X dX12_layEnds_87 1 rfl ?_
          refine r_aload_n X dX12_layEnds_89 rfl 6 rfl ?_
          refine tw_g12_8 (k := 442) (v := .ref (tw_zB z + 444)) X dX12_layEnds_90 _ tw_w1260 tw_kc442 rfl ?_
          refine r_iload_n X dX12_layEnds_93 rfl 7 rfl ?_
          refine r_iconst X dX12_layEnds_94 (v := (3 : Int32)) (by decide) ?_
          refine r_iadd X dX12_layEnds_95 ?_
          refine r_iald (k := 444) X dX12_layEnds_96 tw_kc444 ?_
          refine r_bd (fun r15 hr15 => ?_)
          refine tw_c_X12_step X dX12_layEnds_97 _ tw_w1562  hr15 (tw_le hfr rfl) (tw_le hlo rfl) hcs (Nat.le_of_ble_eq_true rfl) trivial ?_
          refine r_istore X dX12_layEnds_100 (by decide) (LL := fun v16 => [(9, .int v16), (8, .int a11.2.2.1), (7, .int a11.2.1), (6, .int a11.1), (5, .int v7), (4, .int v4), (3, .int v1), (0, .ref (tw_zB z + 442)), (1, .int x0)]) (fun _ => rfl) (fun v16 => ?_)
          refine r_iload_n X dX12_layEnds_102 rfl 6 rfl ?_
          refine r_jn (α := Int32) (σJ := fun a17 => a11.2.2.2) (pcJ := 174) (LJ := fun a17 => [(9, .int v16), (8, .int a11.2.2.1), (7, .int a11.2.1), (6, .int a11.1), (5, .int v7), (4, .int v4), (3, .int v1), (0, .ref (tw_zB z + 442)), (1, .int x0)]) (stJ := fun a17 => [.int a17]) (ok := fun a17 => True) (fun a17 hoka17 => ?_) (fun j18 hj18 => ?_)
          ·
            refine r_istore X dX12_layEnds_174 (by decide) (LL := fun v19 => [(10, .int v19), (9, .int v16), (8, .int a11.2.2.1), (7, .int a11.2.1), (6, .int a11.1), (5, .int v7), (4, .int v4), (3, .int v1), (0, .ref (tw_zB z + 442)), (1, .int x0)]) (fun _ => rfl) (fun v19 => ?_)
            refine r_iload X dX12_layEnds_176 0 rfl ?_
            refine r_jn (α := Int32 × tw_Sg) (σJ := fun a20 => a20.2) (pcJ := 209) (LJ := fun a20 => [(9, .int v16), (8, .int a11.2.2.1), (6, .int a20.1), (5, .int v7), (4, .int v4), (3, .int v1), (0, .ref (tw_zB z + 442)), (1, .int x0)]) (stJ := fun a20 => []) (ok := fun a20 => True) (fun a20 hoka20 => ?_) (fun j21 hj21 => ?_)
            ·
              refine r_iload X dX12_layEnds_209 0 rfl ?_
              refine r_istore X dX12_layEnds_211 (by decide) (LL := fun v22 => [(7, .int v22), (9, .int v16), (8, .int a11.2.2.1), (6, .int a20.1), (5, .int v7), (4, .int v4), (3, .int v1), (0, .ref (tw_zB z + 442)), (1, .int x0)]) (fun _ => rfl) (fun v22 => ?_)
              refine r_iinc X dX12_layEnds_213 2 rfl (v := (1 : Int32)) (by decide) (by decide) (LL := fun v23 => [(8, .int v23), (7, .int v22), (9, .int v16), (6, .int a20.1), (5, .int v7), (4, .int v4), (3, .int v1), (0, .ref (tw_zB z + 442)), (1, .int x0)]) (fun _ => rfl) (fun v23 => ?_)
              refine r_goto X dX12_layEnds_216 (tgt := 73) (by decide) ?_
              exact tw_Rf.sub [0, 1, 3, 4, 5, 6, 7, 8] rfl (hk12 (a20.1, v22, v23, a20.2))
            refine r_if_eq X dX12_layEnds_178 (tgt := 209) (by decide) ?_ ?_
            ·
              exact tw_Rf.sub [1, 2, 4, 5, 6, 7, 8, 9] rfl (hj21 (a11.1, a11.2.2.2) trivial)
            ·
              refine r_aload_n X dX12_layEnds_181 rfl 8 rfl ?_
              refine tw_g12_19 (k := 442) (v := .ref (tw_zB z + 455)) X dX12_layEnds_182 _ tw_w1271 tw_kc442 rfl ?_
              refine r_iload X dX12_layEnds_185 4 rfl ?_
              refine r_iload X dX12_layEnds_187 3 rfl ?_
              refine r_iast (k := 455) X dX12_layEnds_189 tw_kc455 (fun σ24 => ?_)
              refine r_aload_n X dX12_layEnds_190 rfl 8 rfl ?_
              refine tw_g12_20 (k := 442) (v := .ref (tw_zB z + 456)) X dX12_layEnds_191 _ tw_w1272 tw_kc442 rfl ?_
              refine r_iload X dX12_layEnds_194 4 rfl ?_
              refine r_iload X dX12_layEnds_196 2 rfl ?_
              refine r_iast (k := 456) X dX12_layEnds_198 tw_kc456 (fun σ25 => ?_)
              refine r_iinc X dX12_layEnds_199 4 rfl (v := (1 : Int32)) (by decide) (by decide) (LL := fun v26 => [(6, .int v26), (10, .int v19), (9, .int v16), (8, .int a11.2.2.1), (7, .int a11.2.1), (5, .int v7), (4, .int v4), (3, .int v1), (0, .ref (tw_zB z + 442)), (1, .int x0)]) (fun _ => rfl) (fun v26 => ?_)
              refine r_iload_n X dX12_layEnds_202 rfl 7 rfl ?_
              refine r_if_eq X dX12_layEnds_203 (tgt := 209) (by decide) ?_ ?_
              ·
                exact tw_Rf.sub [2, 3, 0, 5, 6, 7, 8, 9] rfl (hj21 (v26, σ25) trivial)
              ·
                refine r_iload X dX12_layEnds_206 0 rfl ?_
                exact r_iret X dX12_layEnds_208 hret hQ rfl
          refine r_if_ne X dX12_layEnds_103 (tgt := 121) (by decide) ?_ ?_
          ·
            refine r_iload_n X dX12_layEnds_121 rfl 6 rfl ?_
            refine r_iconst X dX12_layEnds_122 (v := (1 : Int32)) (by decide) ?_
            refine r_icmp_ne X dX12_layEnds_123 (tgt := 156) (by decide) ?_ ?_
            ·
              refine r_iload X dX12_layEnds_156 0 rfl ?_
              refine r_iconst X dX12_layEnds_158 (v := (-1 : Int32)) (by decide) ?_
              refine r_jn (α := Unit) (σJ := fun a27 => a11.2.2.2) (pcJ := 173) (LJ := fun a27 => [(9, .int v16), (8, .int a11.2.2.1), (7, .int a11.2.1), (6, .int a11.1), (5, .int v7), (4, .int v4), (3, .int v1), (0, .ref (tw_zB z + 442)), (1, .int x0)]) (stJ := fun a27 => []) (ok := fun a27 => True) (fun a27 hoka27 => ?_) (fun j28 hj28 => ?_)
              ·
                refine r_iconst X dX12_layEnds_173 (v := (0 : Int32)) (by decide) ?_
                exact hj18 (0 : Int32) trivial
              refine r_icmp_ne X dX12_layEnds_159 (tgt := 173) (by decide) ?_ ?_
              ·
                exact hj28 () trivial
              ·
                refine r_iload X dX12_layEnds_162 1 rfl ?_
                refine r_bipush X dX12_layEnds_164 (v := (60 : Int32)) (by decide) ?_
                refine r_icmp_ge X dX12_layEnds_166 (tgt := 173) (by decide) ?_ ?_
                ·
                  exact hj28 () trivial
                ·
                  refine r_iconst X dX12_layEnds_169 (v := (1 : Int32)) (by decide) ?_
                  refine r_goto X dX12_layEnds_170 (tgt := 174) (by decide) ?_
                  exact hj18 (1 : Int32) trivial
            ·
              refine r_iload X dX12_layEnds_126 2 rfl ?_
              refine r_aload_n X dX12_layEnds_128 rfl 7 rfl ?_
              refine tw_g12_8 (k := 442) (v := .ref (tw_zB z + 444)) X dX12_layEnds_129 _ tw_w1260 tw_kc442 rfl ?_
              refine r_sipush X dX12_layEnds_132 (v := (808 : Int32)) (by decide) ?_
              refine r_aload_n X dX12_layEnds_135 rfl 7 rfl ?_
              refine tw_g12_8 (k := 442) (v := .ref (tw_zB z + 444)) X dX12_layEnds_136 _ tw_w1260 tw_kc442 rfl ?_
              refine r_iload_n X dX12_layEnds_139 rfl 8 rfl ?_
              refine r_iconst X dX12_layEnds_140 (v := (1 : Int32)) (by decide) ?_
              refine r_iadd X dX12_layEnds_141 ?_
              refine r_iald (k := 444) X dX12_layEnds_142 tw_kc444 ?_
              refine r_iadd X dX12_layEnds_143 ?_
              refine r_iald (k := 444) X dX12_layEnds_144 tw_kc444 ?_
              refine r_icmp_ne X dX12_layEnds_145 (tgt := 152) (by decide) ?_ ?_
              ·
                refine r_iconst X dX12_layEnds_152 (v := (0 : Int32)) (by decide) ?_
                refine r_goto X dX12_layEnds_153 (tgt := 174) (by decide) ?_
                exact hj18 (0 : Int32) trivial
              ·
                refine r_iconst X dX12_layEnds_148 (v := (1 : Int32)) (by decide) ?_
                refine r_goto X dX12_layEnds_149 (tgt := 174) (by decide) ?_
                exact hj18 (1 : Int32) trivial
          ·
            refine r_iload X dX12_layEnds_106 1 rfl ?_
            refine r_iload X dX12_layEnds_108 4 rfl ?_
            refine r_icmp_lt X dX12_layEnds_110 (tgt := 117) (by decide) ?_ ?_
            ·
              refine r_iconst X dX12_layEnds_117 (v := (0 : Int32)) (by decide) ?_
              refine r_goto X dX12_layEnds_118 (tgt := 174) (by decide) ?_
              exact hj18 (0 : Int32) trivial
            ·
              refine r_iconst X dX12_layEnds_113 (v := (1 : Int32)) (by decide) ?_
              refine r_goto X dX12_layEnds_114 (tgt := 174) (by decide) ?_
              exact hj18 (1 : Int32) trivial
    refine r_if_ne X dX12_layEnds_38 (tgt := 61) (by decide) ?_ ?_
    ·
      refine r_iconst X dX12_layEnds_61 (v := (0 : Int32)) (by decide) ?_
      exact hj6 (0 : Int32) trivial
    ·
      refine r_aload_n X dX12_layEnds_41 rfl 2 rfl ?_
      refine tw_g12_8 (k := 442) (v := .ref (tw_zB z + 444)) X dX12_layEnds_42 _ tw_w1260 tw_kc442 rfl ?_
      refine r_iload_n X dX12_layEnds_45 rfl 3 rfl ?_
      refine r_iconst X dX12_layEnds_46 (v := (1 : Int32)) (by decide) ?_
      refine r_iadd X dX12_layEnds_47 ?_
      refine r_iald (k := 444) X dX12_layEnds_48 tw_kc444 ?_
      refine r_aload_n X dX12_layEnds_49 rfl 2 rfl ?_
      refine tw_g12_8 (k := 442) (v := .ref (tw_zB z + 444)) X dX12_layEnds_50 _ tw_w1260 tw_kc442 rfl ?_
      refine r_iload_n X dX12_layEnds_53 rfl 3 rfl ?_
      refine r_iconst X dX12_layEnds_54 (v := (2 : Int32)) (by decide) ?_
      refine r_iadd X dX12_layEnds_55 ?_
      refine r_iald (k := 444) X dX12_layEnds_56 tw_kc444 ?_
      refine r_isub X dX12_layEnds_57 ?_
      refine r_goto X dX12_layEnds_58 (tgt := 62) (by decide) ?_
      exact hj6 ((σ 444 (Int32.toNatClampNeg (x0 + (1 : Int32)))) - (σ 444 (Int32.toNatClampNeg (x0 + (2 : Int32))))) trivial
  refine r_if_ne X dX12_layEnds_10 (tgt := 33) (by decide) ?_ ?_
  ·
    refine r_bipush X dX12_layEnds_33 (v := (60 : Int32)) (by decide) ?_
    exact hj3 (60 : Int32) trivial
  ·
    refine r_aload_n X dX12_layEnds_13 rfl 1 rfl ?_
    refine tw_g12_8 (k := 442) (v := .ref (tw_zB z + 444)) X dX12_layEnds_14 _ tw_w1260 tw_kc442 rfl ?_
    refine r_iload_n X dX12_layEnds_17 rfl 2 rfl ?_
    refine r_iconst X dX12_layEnds_18 (v := (1 : Int32)) (by decide) ?_
    refine r_iadd X dX12_layEnds_19 ?_
    refine r_iald (k := 444) X dX12_layEnds_20 tw_kc444 ?_
    refine r_aload_n X dX12_layEnds_21 rfl 1 rfl ?_
    refine tw_g12_8 (k := 442) (v := .ref (tw_zB z + 444)) X dX12_layEnds_22 _ tw_w1260 tw_kc442 rfl ?_
    refine r_iload_n X dX12_layEnds_25 rfl 2 rfl ?_
    refine r_iconst X dX12_layEnds_26 (v := (2 : Int32)) (by decide) ?_
    refine r_iadd X dX12_layEnds_27 ?_
    refine r_iald (k := 444) X dX12_layEnds_28 tw_kc444 ?_
    refine r_iadd X dX12_layEnds_29 ?_
    refine r_goto X dX12_layEnds_30 (tgt := 35) (by decide) ?_
    exact hj3 ((σ 444 (Int32.toNatClampNeg (x0 + (1 : Int32)))) + (σ 444 (Int32.toNatClampNeg (x0 + (2 : Int32))))) trivial
theorem tw_c_X12_layEnds {ρ : Type} {z : tw_Z} {cc : ByteArray} {own : String} {nL pc : Nat} {σ : tw_Sg} {L : List (Nat × Value)} {st : List Value} {ix : Nat} {n : Nat} {x0 : Int32} {x1 : Int32} (X : tw_X z cc own nL) (d : decode cc pc = .ok (.invokevirtual ix, 3)) (i : Nat) (hi : lw_tbl[i]? = some (.methodLink own ix yX12_layEnds))  {res : ρ} {E : Option ρ} {r : Int32 × tw_Sg} (h : tw_P_X12_layEnds n x0 x1 σ = some r) (h1 : 4 ≤ (tw_zR z).frames) (h2 : 103 ≤ (tw_zR z).locals) (hcs : tw_zcells z ≤ (tw_zR z).cells ∧ tw_zslots z ≤ (tw_zR z).slots) (hst : (st.map fun v => v.category).sum ≤ 8) (_ : True) (kk : tw_Rf z res E r.2 (pc + 3) L (.int r.1 :: st)) : tw_Rf z res E σ pc L (.int x1 :: .int x0 :: .ref (tw_zB z + 442) :: st) := r_callV (As := [.int x0, .int x1]) X d (tw_m_X12_layEnds  h) tw_y_X12_layEnds tw_v_X12_layEnds i hi rfl (tw_kd_lt tw_kc442 (by decide)) (tw_E12 tw_kc442) rfl ⟨rfl, rfl, h1, h2⟩ hcs hst rfl kk
def tw_P_X12_legAt (x0 : Int32) (x1 : Int32) (σ : tw_Sg) : Option (Int32) :=
tw_bd (tw_P_X12_clueAt x0 σ) (fun r1 =>
some ((r1 + (11 : Int32)) + ((4 : Int32) * x1)))
theorem tw_y_X12_legAt : tw_My yX12_legAt cX12_legAt 2 (some .int) 2 := ⟨List.mem_of_getElem? tw_w1557, List.mem_of_getElem? tw_w101, by decide +kernel, by decide +kernel, by decide +kernel⟩
theorem tw_v_X12_legAt : tw_Ms yX12_legAt := List.mem_of_getElem? tw_w1556
set_option maxRecDepth 100000 in
set_option maxHeartbeats 4000000 in
theorem tw_m_X12_legAt {l : Launch} {B : Nat} {D : va_G} {C : Nat → ClassId} {S : Nat → Nat} {x0 : Int32} {x1 : Int32} {σ : tw_Sg}  {r : Int32} (h : tw_P_X12_legAt x0 x1 σ = some r) : tw_Met l B D C S yX12_legAt cX12_legAt 2 (some .int) ({ frames := 1, cells := 0, slots := 0, locals := 20 } : Room) [.int x0, .int x1] σ (some (.int r)) σ := by
  refine tw_metOfP (tw_P_X12_legAt x0 x1 σ) r h (fun r => (some (.int r), σ)) (by decide +kernel) (Nat.le_of_ble_eq_true rfl) ⟨rfl, rfl⟩ ?_
  intro z el eB eD eC eS hfr hlo hcs X hret hQ
  subst el eB eD eC eS
  have X : tw_X z cX12_legAt "TreasureWalkModel" 2 := X
  show tw_Rf z r _ σ 0 [(0, .int x0), (1, .int x1)] []
  unfold tw_P_X12_legAt
  refine r_iload_n X dX12_legAt_0 rfl 0 rfl ?_
  refine r_bd (fun r1 hr1 => ?_)
  refine tw_c_X12_clueAt X dX12_legAt_1 _ tw_w1460  hr1 (tw_le hfr rfl) (tw_le hlo rfl) hcs (Nat.le_of_ble_eq_true rfl) trivial ?_
  refine r_bipush X dX12_legAt_4 (v := (11 : Int32)) (by decide) ?_
  refine r_iadd X dX12_legAt_6 ?_
  refine r_iconst X dX12_legAt_7 (v := (4 : Int32)) (by decide) ?_
  refine r_iload_n X dX12_legAt_8 rfl 1 rfl ?_
  refine r_imul X dX12_legAt_9 ?_
  refine r_iadd X dX12_legAt_10 ?_
  exact r_iret X dX12_legAt_11 hret hQ rfl
theorem tw_c_X12_legAt {ρ : Type} {z : tw_Z} {cc : ByteArray} {own : String} {nL pc : Nat} {σ : tw_Sg} {L : List (Nat × Value)} {st : List Value} {ix : Nat} {x0 : Int32} {x1 : Int32} (X : tw_X z cc own nL) (d : decode cc pc = .ok (.invokestatic ix, 3)) (i : Nat) (hi : lw_tbl[i]? = some (.methodLink own ix yX12_legAt))  {res : ρ} {E : Option ρ} {r : Int32} (h : tw_P_X12_legAt x0 x1 σ = some r) (h1 : 2 ≤ (tw_zR z).frames) (h2 : 41 ≤ (tw_zR z).locals) (hcs : tw_zcells z ≤ (tw_zR z).cells ∧ tw_zslots z ≤ (tw_zR z).slots) (hst : (st.map fun v => v.category).sum ≤ 8) (_ : True) (kk : tw_Rf z res E σ (pc + 3) L (.int r :: st)) : tw_Rf z res E σ pc L (.int x1 :: .int x0 :: st) := r_callS (As := [.int x0, .int x1]) X d (tw_m_X12_legAt  h) tw_y_X12_legAt tw_v_X12_legAt i hi rfl ⟨rfl, rfl, h1, h2⟩ hcs hst rfl kk
def tw_P_X12_legs (x0 : Int32) (σ : tw_Sg) : Option (Int32) :=
tw_bd (tw_P_X12_clueAt x0 σ) (fun r1 =>
tw_ck (tw_ok (r1 + (2 : Int32)) (tw_ln 444)) (
some (σ 444 (Int32.toNatClampNeg (r1 + (2 : Int32))))))
theorem tw_y_X12_legs : tw_My yX12_legs cX12_legs 2 (some .int) 1 := ⟨List.mem_of_getElem? tw_w1546, List.mem_of_getElem? tw_w101, by decide +kernel, by decide +kernel, by decide +kernel⟩
theorem tw_v_X12_legs : tw_Mv yX12_legs "TreasureWalkModel" := ⟨List.mem_of_getElem? tw_w1545, List.mem_of_getElem? tw_w69, rfl⟩
set_option maxRecDepth 100000 in
set_option maxHeartbeats 4000000 in
theorem tw_m_X12_legs {l : Launch} {B : Nat} {D : va_G} {C : Nat → ClassId} {S : Nat → Nat} {x0 : Int32} {σ : tw_Sg}  {r : Int32} (h : tw_P_X12_legs x0 σ = some r) : tw_Met l B D C S yX12_legs cX12_legs 2 (some .int) ({ frames := 1, cells := 0, slots := 0, locals := 20 } : Room) [.ref (B + 442), .int x0] σ (some (.int r)) σ := by
  refine tw_metOfP (tw_P_X12_legs x0 σ) r h (fun r => (some (.int r), σ)) (by decide +kernel) (Nat.le_of_ble_eq_true rfl) ⟨rfl, rfl⟩ ?_
  intro z el eB eD eC eS hfr hlo hcs X hret hQ
  subst el eB eD eC eS
  have X : tw_X z cX12_legs "TreasureWalkModel" 2 := X
  show tw_Rf z r _ σ 0 [(0, .ref (tw_zB z + 442)), (1, .int x0)] []
  unfold tw_P_X12_legs
  refine r_aload_n X dX12_legs_0 rfl 0 rfl ?_
  refine tw_g12_8 (k := 442) (v := .ref (tw_zB z + 444)) X dX12_legs_1 _ tw_w1260 tw_kc442 rfl ?_
  refine r_iload_n X dX12_legs_4 rfl 1 rfl ?_
  refine r_bd (fun r1 hr1 => ?_)
  refine tw_c_X12_clueAt X dX12_legs_5 _ tw_w1460  hr1 (tw_le hfr rfl) (tw_le hlo rfl) hcs (Nat.le_of_ble_eq_true rfl) trivial ?_
  refine r_iconst X dX12_legs_8 (v := (2 : Int32)) (by decide) ?_
  refine r_iadd X dX12_legs_9 ?_
  refine r_iald (k := 444) X dX12_legs_10 tw_kc444 ?_
  exact r_iret X dX12_legs_11 hret hQ rfl
theorem tw_c_X12_legs {ρ : Type} {z : tw_Z} {cc : ByteArray} {own : String} {nL pc : Nat} {σ : tw_Sg} {L : List (Nat × Value)} {st : List Value} {ix : Nat} {x0 : Int32} (X : tw_X z cc own nL) (d : decode cc pc = .ok (.invokevirtual ix, 3)) (i : Nat) (hi : lw_tbl[i]? = some (.methodLink own ix yX12_legs))  {res : ρ} {E : Option ρ} {r : Int32} (h : tw_P_X12_legs x0 σ = some r) (h1 : 2 ≤ (tw_zR z).frames) (h2 : 41 ≤ (tw_zR z).locals) (hcs : tw_zcells z ≤ (tw_zR z).cells ∧ tw_zslots z ≤ (tw_zR z).slots) (hst : (st.map fun v => v.category).sum ≤ 8) (_ : True) (kk : tw_Rf z res E σ (pc + 3) L (.int r :: st)) : tw_Rf z res E σ pc L (.int x0 :: .ref (tw_zB z + 442) :: st) := r_callV (As := [.int x0]) X d (tw_m_X12_legs  h) tw_y_X12_legs tw_v_X12_legs i hi rfl (tw_kd_lt tw_kc442 (by decide)) (tw_E12 tw_kc442) rfl ⟨rfl, rfl, h1, h2⟩ hcs hst rfl kk
def tw_P_X12_startOf (x0 : Int32) (x1 : Int32) (σ : tw_Sg) : Option (Int32) :=
tw_bd (tw_P_X12_clueAt x0 σ) (fun r1 =>
tw_ck (tw_ok ((r1 + (3 : Int32)) + x1) (tw_ln 444)) (
tw_ck (tw_ok ((808 : Int32) + (σ 444 (Int32.toNatClampNeg ((r1 + (3 : Int32)) + x1)))) (tw_ln 444)) (
some (σ 444 (Int32.toNatClampNeg ((808 : Int32) + (σ 444 (Int32.toNatClampNeg ((r1 + (3 : Int32)) + x1)))))))))
theorem tw_y_X12_startOf : tw_My yX12_startOf cX12_startOf 3 (some .int) 2 := ⟨List.mem_of_getElem? tw_w1550, List.mem_of_getElem? tw_w101, by decide +kernel, by decide +kernel, by decide +kernel⟩
theorem tw_v_X12_startOf : tw_Mv yX12_startOf "TreasureWalkModel" := ⟨List.mem_of_getElem? tw_w1549, List.mem_of_getElem? tw_w70, rfl⟩
set_option maxRecDepth 100000 in
set_option maxHeartbeats 4000000 in
theorem tw_m_X12_startOf {l : Launch} {B : Nat} {D : va_G} {C : Nat → ClassId} {S : Nat → Nat} {x0 : Int32} {x1 : Int32} {σ : tw_Sg}  {r : Int32} (h : tw_P_X12_startOf x0 x1 σ = some r) : tw_Met l B D C S yX12_startOf cX12_startOf 3 (some .int) ({ frames := 1, cells := 0, slots := 0, locals := 20 } : Room) [.ref (B + 442), .int x0, .int x1] σ (some (.int r)) σ := by
  refine tw_metOfP (tw_P_X12_startOf x0 x1 σ) r h (fun r => (some (.int r), σ)) (by decide +kernel) (Nat.le_of_ble_eq_true rfl) ⟨rfl, rfl⟩ ?_
  intro z el eB eD eC eS hfr hlo hcs X hret hQ
  subst el eB eD eC eS
  have X : tw_X z cX12_startOf "TreasureWalkModel" 3 := X
  show tw_Rf z r _ σ 0 [(0, .ref (tw_zB z + 442)), (1, .int x0), (2, .int x1)] []
  unfold tw_P_X12_startOf
  refine r_aload_n X dX12_startOf_0 rfl 0 rfl ?_
  refine tw_g12_8 (k := 442) (v := .ref (tw_zB z + 444)) X dX12_startOf_1 _ tw_w1260 tw_kc442 rfl ?_
  refine r_sipush X dX12_startOf_4 (v := (808 : Int32)) (by decide) ?_
  refine r_aload_n X dX12_startOf_7 rfl 0 rfl ?_
  refine tw_g12_8 (k := 442) (v := .ref (tw_zB z + 444)) X dX12_startOf_8 _ tw_w1260 tw_kc442 rfl ?_
  refine r_iload_n X dX12_startOf_11 rfl 1 rfl ?_
  refine r_bd (fun r1 hr1 => ?_)
  refine tw_c_X12_clueAt X dX12_startOf_12 _ tw_w1460  hr1 (tw_le hfr rfl) (tw_le hlo rfl) hcs (Nat.le_of_ble_eq_true rfl) trivial ?_
  refine r_iconst X dX12_startOf_15 (v := (3 : Int32)) (by decide) ?_
  refine r_iadd X dX12_startOf_16 ?_
  refine r_iload_n X dX12_startOf_17 rfl 2 rfl ?_
  refine r_iadd X dX12_startOf_18 ?_
  refine r_iald (k := 444) X dX12_startOf_19 tw_kc444 ?_
  refine r_iadd X dX12_startOf_20 ?_
  refine r_iald (k := 444) X dX12_startOf_21 tw_kc444 ?_
  exact r_iret X dX12_startOf_22 hret hQ rfl
theorem tw_c_X12_startOf {ρ : Type} {z : tw_Z} {cc : ByteArray} {own : String} {nL pc : Nat} {σ : tw_Sg} {L : List (Nat × Value)} {st : List Value} {ix : Nat} {x0 : Int32} {x1 : Int32} (X : tw_X z cc own nL) (d : decode cc pc = .ok (.invokevirtual ix, 3)) (i : Nat) (hi : lw_tbl[i]? = some (.methodLink own ix yX12_startOf))  {res : ρ} {E : Option ρ} {r : Int32} (h : tw_P_X12_startOf x0 x1 σ = some r) (h1 : 2 ≤ (tw_zR z).frames) (h2 : 42 ≤ (tw_zR z).locals) (hcs : tw_zcells z ≤ (tw_zR z).cells ∧ tw_zslots z ≤ (tw_zR z).slots) (hst : (st.map fun v => v.category).sum ≤ 8) (_ : True) (kk : tw_Rf z res E σ (pc + 3) L (.int r :: st)) : tw_Rf z res E σ pc L (.int x1 :: .int x0 :: .ref (tw_zB z + 442) :: st) := r_callV (As := [.int x0, .int x1]) X d (tw_m_X12_startOf  h) tw_y_X12_startOf tw_v_X12_startOf i hi rfl (tw_kd_lt tw_kc442 (by decide)) (tw_E12 tw_kc442) rfl ⟨rfl, rfl, h1, h2⟩ hcs hst rfl kk
def tw_P_X12_layLeg (n : Nat) (x0 : Int32) (x1 : Int32) (σ : tw_Sg) : Option (tw_Sg) :=
tw_lt (0 : Int32) (fun (v1 : Int32) =>
tw_lp (fun (k3 : (Int32 × tw_Sg) → Option (tw_Sg)) (a2 : Int32 × tw_Sg) =>
tw_bd (tw_P_X12_cells a2.2) (fun r4 =>
if r4 ≤ a2.1 then (some a2.2)
else (tw_ck (tw_ok x0 (tw_ln 457)) (
tw_ck (tw_ok x1 (tw_ln (457 + 1 + 10 * Int32.toNatClampNeg x0))) (
tw_ck (tw_ok a2.1 (tw_ln ((457 + 1 + 10 * Int32.toNatClampNeg x0) + 1 + 1 * Int32.toNatClampNeg x1))) (
tw_jn (fun (a7 : Int32 × tw_Sg) =>
tw_lt a7.1 (fun (v9 : Int32) =>
tw_lt (0 : Int32) (fun (v10 : Int32) =>
tw_lp (fun (k12 : (Int32 × Int32 × tw_Sg) → Option (tw_Sg)) (a11 : Int32 × Int32 × tw_Sg) =>
if v9 ≤ a11.2.1 then (tw_lt (a11.1 + (1 : Int32)) (fun (v13 : Int32) =>
k3 (v13, a11.2.2)))
else (tw_ck (tw_ok x0 (tw_ln 457)) (
tw_ck (tw_ok (x1 + (1 : Int32)) (tw_ln (457 + 1 + 10 * Int32.toNatClampNeg x0))) (
tw_ck (tw_ok a11.2.1 (tw_ln 455)) (
tw_ck (tw_ok (a11.2.2 455 (Int32.toNatClampNeg a11.2.1)) (tw_ln ((457 + 1 + 10 * Int32.toNatClampNeg x0) + 1 + 1 * Int32.toNatClampNeg (x1 + (1 : Int32))))) (tw_lt (tw_up a11.2.2 ((457 + 1 + 10 * Int32.toNatClampNeg x0) + 1 + 1 * Int32.toNatClampNeg (x1 + (1 : Int32))) (Int32.toNatClampNeg (a11.2.2 455 (Int32.toNatClampNeg a11.2.1))) (vp_nar .boolean (1 : Int32))) (fun (σ16 : tw_Sg) =>
tw_lt (a11.2.1 + (1 : Int32)) (fun (v17 : Int32) =>
k12 (a11.1, v17, σ16))))))))) n (a2.1, v10, a7.2)))) (fun (j8 : (Int32 × tw_Sg) → Option (tw_Sg)) =>
if (a2.2 ((457 + 1 + 10 * Int32.toNatClampNeg x0) + 1 + 1 * Int32.toNatClampNeg x1) (Int32.toNatClampNeg a2.1)) = 0 then (j8 ((0 : Int32), a2.2))
else (tw_bd (tw_P_X12_legAt x0 x1 a2.2) (fun r18 =>
tw_bd (tw_P_X12_layEnds n r18 a2.1 a2.2) (fun r19 =>
j8 (r19.1, r19.2))))))))))) n (v1, σ))
theorem tw_y_X12_layLeg : tw_My yX12_layLeg cX12_layLeg 6 none 2 := ⟨List.mem_of_getElem? tw_w1554, List.mem_of_getElem? tw_w101, by decide +kernel, by decide +kernel, by decide +kernel⟩
theorem tw_v_X12_layLeg : tw_Mv yX12_layLeg "TreasureWalkModel" := ⟨List.mem_of_getElem? tw_w1553, List.mem_of_getElem? tw_w71, rfl⟩
set_option maxRecDepth 100000 in
set_option maxHeartbeats 4000000 in
theorem tw_m_X12_layLeg {l : Launch} {B : Nat} {D : va_G} {C : Nat → ClassId} {S : Nat → Nat} {n : Nat} {x0 : Int32} {x1 : Int32} {σ : tw_Sg}  {r : tw_Sg} (h : tw_P_X12_layLeg n x0 x1 σ = some r) : tw_Met l B D C S yX12_layLeg cX12_layLeg 6 none ({ frames := 4, cells := 0, slots := 0, locals := 103 } : Room) [.ref (B + 442), .int x0, .int x1] σ (none) r := by
  refine tw_metOfP (tw_P_X12_layLeg n x0 x1 σ) r h (fun r => (none, r)) (by decide +kernel) (Nat.le_of_ble_eq_true rfl) ⟨rfl, rfl⟩ ?_
  intro z el eB eD eC eS hfr hlo hcs X hret hQ
  subst el eB eD eC eS
  have X : tw_X z cX12_layLeg "TreasureWalkModel" 6 := X
  show tw_Rf z r _ σ 0 [(0, .ref (tw_zB z + 442)), (1, .int x0), (2, .int x1)] []
  unfold tw_P_X12_layLeg
  refine r_iconst X dX12_layLeg_0 (v := (0 : Int32)) (by decide) ?_
  refine r_istore_n X dX12_layLeg_1 rfl (by decide) (LL := fun v1 => [(3, .int v1), (0, .ref (tw_zB z + 442)), (1, .int x0), (2, .int x1)]) (fun _ => rfl) (fun v1 => ?_)
  refine r_lp (α := Int32 × tw_Sg) (σJ := fun a2 => a2.2) (pcJ := 2) (LJ := fun a2 => [(3, .int a2.1), (0, .ref (tw_zB z + 442)), (1, .int x0), (2, .int x1)]) (stJ := fun a2 => []) (fun k3 hk3 a2 => ?_) n (v1, σ)
  refine r_iload_n X dX12_layLeg_2 rfl 0 rfl ?_
  refine r_aload_n X dX12_layLeg_3 rfl 1 rfl ?_
  refine r_bd (fun r4 hr4 => ?_)
  refine tw_c_X12_cells X dX12_layLeg_4 _ tw_w1523  hr4 (tw_le hfr rfl) (tw_le hlo rfl) hcs (Nat.le_of_ble_eq_true rfl) trivial ?_
  refine r_icmp_ge X dX12_layLeg_7 (tgt := 80) (by decide) ?_ ?_
  ·
    exact r_vret X dX12_layLeg_80 hret hQ rfl
  ·
    refine r_aload_n X dX12_layLeg_10 rfl 1 rfl ?_
    refine tw_g12_21 (k := 442) (v := .ref (tw_zB z + 457)) X dX12_layLeg_11 _ tw_w1273 tw_kc442 rfl ?_
    refine r_iload_n X dX12_layLeg_14 rfl 2 rfl ?_
    refine r_aald (k := 457) (r := 457 + 1 + 10 * Int32.toNatClampNeg x0) X dX12_layLeg_15 (tw_kd_lt tw_kc457 (by decide)) (tw_E19 tw_kc457) rfl rfl rfl (fun h5 => ?_)
    refine r_iload_n X dX12_layLeg_16 rfl 3 rfl ?_
    refine r_aald (k := (457 + 1 + 10 * Int32.toNatClampNeg x0)) (r := (457 + 1 + 10 * Int32.toNatClampNeg x0) + 1 + 1 * Int32.toNatClampNeg x1) X dX12_layLeg_17 (tw_kd_lt (tw_ke19 tw_kc457 (tw_ok_lt h5)) (by decide)) (tw_E18 (tw_ke19 tw_kc457 (tw_ok_lt h5))) rfl rfl rfl (fun h6 => ?_)
    refine r_iload_n X dX12_layLeg_18 rfl 0 rfl ?_
    refine r_zald (k := ((457 + 1 + 10 * Int32.toNatClampNeg x0) + 1 + 1 * Int32.toNatClampNeg x1)) X dX12_layLeg_19 (tw_ke18 (tw_ke19 tw_kc457 (tw_ok_lt h5)) (tw_ok_lt h6)) ?_
    refine r_jn (α := Int32 × tw_Sg) (σJ := fun a7 => a7.2) (pcJ := 37) (LJ := fun a7 => [(3, .int a2.1), (0, .ref (tw_zB z + 442)), (1, .int x0), (2, .int x1)]) (stJ := fun a7 => [.int a7.1]) (ok := fun a7 => True) (fun a7 hoka7 => ?_) (fun j8 hj8 => ?_)
    ·
      refine r_istore X dX12_layLeg_37 (by decide) (LL := fun v9 => [(4, .int v9), (3, .int a2.1), (0, .ref (tw_zB z + 442)), (1, .int x0), (2, .int x1)]) (fun _ => rfl) (fun v9 => ?_)
      refine r_iconst X dX12_layLeg_39 (v := (0 : Int32)) (by decide) ?_
      refine r_istore X dX12_layLeg_40 (by decide) (LL := fun v10 => [(5, .int v10), (4, .int v9), (3, .int a2.1), (0, .ref (tw_zB z + 442)), (1, .int x0), (2, .int x1)]) (fun _ => rfl) (fun v10 => ?_)
      refine r_lp (α := Int32 × Int32 × tw_Sg) (σJ := fun a11 => a11.2.2) (pcJ := 42) (LJ := fun a11 => [(5, .int a11.2.1), (4, .int v9), (3, .int a11.1), (0, .ref (tw_zB z + 442)), (1, .int x0), (2, .int x1)]) (stJ := fun a11 => []) (fun k12 hk12 a11 => ?_) n (a2.1, v10, a7.2)
      refine r_iload X dX12_layLeg_42 0 rfl ?_
      refine r_iload X dX12_layLeg_44 1 rfl ?_
      refine r_icmp_ge X dX12_layLeg_46 (tgt := 74) (by decide) ?_ ?_
      ·
        refine r_iinc X dX12_layLeg_74 2 rfl (v := (1 : Int32)) (by decide) (by decide) (LL := fun v13 => [(3, .int v13), (5, .int a11.2.1), (4, .int v9), (0, .ref (tw_zB z + 442)), (1, .int x0), (2, .int x1)]) (fun _ => rfl) (fun v13 => ?_)
        refine r_goto X dX12_layLeg_77 (tgt := 2) (by decide) ?_
        exact tw_Rf.sub [0, 3, 4, 5] rfl (hk3 (v13, a11.2.2))
      ·
        refine r_aload_n X dX12_layLeg_49 rfl 3 rfl ?_
        refine tw_g12_21 (k := 442) (v := .ref (tw_zB z + 457)) X dX12_layLeg_50 _ tw_w1273 tw_kc442 rfl ?_
        refine r_iload_n X dX12_layLeg_53 rfl 4 rfl ?_
        refine r_aald (k := 457) (r := 457 + 1 + 10 * Int32.toNatClampNeg x0) X dX12_layLeg_54 (tw_kd_lt tw_kc457 (by decide)) (tw_E19 tw_kc457) rfl rfl rfl (fun h14 => ?_)
        refine r_iload_n X dX12_layLeg_55 rfl 5 rfl ?_
        refine r_iconst X dX12_layLeg_56 (v := (1 : Int32)) (by decide) ?_
        refine r_iadd X dX12_layLeg_57 ?_
        refine r_aald (k := (457 + 1 + 10 * Int32.toNatClampNeg x0)) (r := (457 + 1 + 10 * Int32.toNatClampNeg x0) + 1 + 1 * Int32.toNatClampNeg (x1 + (1 : Int32))) X dX12_layLeg_58 (tw_kd_lt (tw_ke19 tw_kc457 (tw_ok_lt h14)) (by decide)) (tw_E18 (tw_ke19 tw_kc457 (tw_ok_lt h14))) rfl rfl rfl (fun h15 => ?_)
        refine r_aload_n X dX12_layLeg_59 rfl 3 rfl ?_
        refine tw_g12_19 (k := 442) (v := .ref (tw_zB z + 455)) X dX12_layLeg_60 _ tw_w1271 tw_kc442 rfl ?_
        refine r_iload X dX12_layLeg_63 0 rfl ?_
        refine r_iald (k := 455) X dX12_layLeg_65 tw_kc455 ?_
        refine r_iconst X dX12_layLeg_66 (v := (1 : Int32)) (by decide) ?_
        refine r_zast (k := ((457 + 1 + 10 * Int32.toNatClampNeg x0) + 1 + 1 * Int32.toNatClampNeg (x1 + (1 : Int32)))) X dX12_layLeg_67 (tw_ke18 (tw_ke19 tw_kc457 (tw_ok_lt h14)) (tw_ok_lt h15)) (fun σ16 => ?_)
        refine r_iinc X dX12_layLeg_68 0 rfl (v := (1 : Int32)) (by decide) (by decide) (LL := fun v17 => [(5, .int v17), (4, .int v9), (3, .int a11.1), (0, .ref (tw_zB z + 442)), (1, .int x0), (2, .int x1)]) (fun _ => rfl) (fun v17 => ?_)
        refine r_goto X dX12_layLeg_71 (tgt := 42) (by decide) ?_
        exact hk12 (a11.1, v17, σ16)
    refine r_if_eq X dX12_layLeg_20 (tgt := 36) (by decide) ?_ ?_
    ·
      refine r_iconst X dX12_layLeg_36 (v := (0 : Int32)) (by decide) ?_
      exact hj8 ((0 : Int32), a2.2) trivial
    ·
      refine r_aload_n X dX12_layLeg_23 rfl 1 rfl ?_
      refine r_iload_n X dX12_layLeg_24 rfl 2 rfl ?_
      refine r_iload_n X dX12_layLeg_25 rfl 3 rfl ?_
      refine r_bd (fun r18 hr18 => ?_)
      refine tw_c_X12_legAt X dX12_layLeg_26 _ tw_w1555  hr18 (tw_le hfr rfl) (tw_le hlo rfl) hcs (Nat.le_of_ble_eq_true rfl) trivial ?_
      refine r_iload_n X dX12_layLeg_29 rfl 0 rfl ?_
      refine r_bd (fun r19 hr19 => ?_)
      refine tw_c_X12_layEnds X dX12_layLeg_30 _ tw_w1558  hr19 (tw_le hfr rfl) (tw_le hlo rfl) hcs (Nat.le_of_ble_eq_true rfl) trivial ?_
      refine r_goto X dX12_layLeg_33 (tgt := 37) (by decide) ?_
      exact hj8 (r19.1, r19.2) trivial
theorem tw_c_X12_layLeg {ρ : Type} {z : tw_Z} {cc : ByteArray} {own : String} {nL pc : Nat} {σ : tw_Sg} {L : List (Nat × Value)} {st : List Value} {ix : Nat} {n : Nat} {x0 : Int32} {x1 : Int32} (X : tw_X z cc own nL) (d : decode cc pc = .ok (.invokevirtual ix, 3)) (i : Nat) (hi : lw_tbl[i]? = some (.methodLink own ix yX12_layLeg))  {res : ρ} {E : Option ρ} {r : tw_Sg} (h : tw_P_X12_layLeg n x0 x1 σ = some r) (h1 : 5 ≤ (tw_zR z).frames) (h2 : 128 ≤ (tw_zR z).locals) (hcs : tw_zcells z ≤ (tw_zR z).cells ∧ tw_zslots z ≤ (tw_zR z).slots) (hst : (st.map fun v => v.category).sum ≤ 8) (_ : True) (kk : tw_Rf z res E r (pc + 3) L (st)) : tw_Rf z res E σ pc L (.int x1 :: .int x0 :: .ref (tw_zB z + 442) :: st) := r_callV (As := [.int x0, .int x1]) X d (tw_m_X12_layLeg  h) tw_y_X12_layLeg tw_v_X12_layLeg i hi rfl (tw_kd_lt tw_kc442 (by decide)) (tw_E12 tw_kc442) rfl ⟨rfl, rfl, h1, h2⟩ hcs hst rfl kk
