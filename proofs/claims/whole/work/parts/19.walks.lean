def tw_P_X12_letter (n : Nat)  (σ : tw_Sg) : Option (Int32 × tw_Sg) :=
tw_bd (tw_P_X12_isGood σ) (fun r1 =>
if ¬ r1 = 0 then (tw_bd (tw_P_X12_ahead n σ) (fun r2 =>
tw_lt r2.1 (fun (v3 : Int32) =>
tw_bd (tw_P_X12_in v3 (97 : Int32) (104 : Int32) r2.2) (fun r4 =>
tw_jn (fun (a5 : Unit) =>
tw_bd (tw_P_X12_report (-2 : Int32) (r2.2 442 4) r2.2) (fun r7 =>
some ((0 : Int32), r7))) (fun (j6 : (Unit) → Option (Int32 × tw_Sg)) =>
if r4 = 0 then (j6 ())
else (tw_bd (tw_P_X12_byteAt ((r2.2 442 4) + (1 : Int32)) r2.2) (fun r8 =>
tw_bd (tw_P_X12_in r8 (97 : Int32) (122 : Int32) r2.2) (fun r9 =>
if r9 = 0 then (tw_lt (tw_up r2.2 442 4 ((r2.2 442 4) + (1 : Int32))) (fun (σ10 : tw_Sg) =>
some ((v3 - (97 : Int32)), σ10)))
else (j6 ())))))))))
else (some ((0 : Int32), σ)))
theorem tw_y_X12_letter : tw_My yX12_letter cX12_letter 2 (some .int) 0 := ⟨List.mem_of_getElem? tw_w1445, List.mem_of_getElem? tw_w101, by decide +kernel, by decide +kernel, by decide +kernel⟩
theorem tw_v_X12_letter : tw_Mv yX12_letter "TreasureWalkModel" := ⟨List.mem_of_getElem? tw_w1444, List.mem_of_getElem? tw_w51, rfl⟩
set_option maxRecDepth 100000 in
set_option maxHeartbeats 4000000 in
theorem tw_m_X12_letter {l : Launch} {B : Nat} {D : va_G} {C : Nat → ClassId} {S : Nat → Nat} {n : Nat}  {σ : tw_Sg}  {r : Int32 × tw_Sg} (h : tw_P_X12_letter n σ = some r) : tw_Met l B D C S yX12_letter cX12_letter 2 (some .int) ({ frames := 2, cells := 0, slots := 0, locals := 41 } : Room) [.ref (B + 442)] σ (some (.int r.1)) r.2 := by
  refine tw_metOfP (tw_P_X12_letter n σ) r h (fun r => (some (.int r.1), r.2)) (by decide +kernel) (Nat.le_of_ble_eq_true rfl) ⟨rfl, rfl⟩ ?_
  intro z el eB eD eC eS hfr hlo hcs X hret hQ
  subst el eB eD eC eS
  have X : tw_X z cX12_letter "TreasureWalkModel" 2 := X
  show tw_Rf z r _ σ 0 [(0, .ref (tw_zB z + 442))] []
  unfold tw_P_X12_letter
  refine r_aload_n X dX12_letter_0 rfl 0 rfl ?_
  refine r_bd (fun r1 hr1 => ?_)
  refine tw_c_X12_isGood X dX12_letter_1 _ tw_w1371  hr1 (tw_le hfr rfl) (tw_le hlo rfl) hcs (Nat.le_of_ble_eq_true rfl) trivial ?_
  refine r_if_ne X dX12_letter_4 (tgt := 9) (by decide) ?_ ?_
  ·
    refine r_aload_n X dX12_letter_9 rfl 0 rfl ?_
    refine r_bd (fun r2 hr2 => ?_)
    refine tw_c_X12_ahead X dX12_letter_10 _ tw_w1375  hr2 (tw_le hfr rfl) (tw_le hlo rfl) hcs (Nat.le_of_ble_eq_true rfl) trivial ?_
    refine r_istore_n X dX12_letter_13 rfl (by decide) (LL := fun v3 => [(1, .int v3), (0, .ref (tw_zB z + 442))]) (fun _ => rfl) (fun v3 => ?_)
    refine r_iload_n X dX12_letter_14 rfl 0 rfl ?_
    refine r_bipush X dX12_letter_15 (v := (97 : Int32)) (by decide) ?_
    refine r_bipush X dX12_letter_17 (v := (104 : Int32)) (by decide) ?_
    refine r_bd (fun r4 hr4 => ?_)
    refine tw_c_X12_in X dX12_letter_19 _ tw_w1359  hr4 (tw_le hfr rfl) (tw_le hlo rfl) hcs (Nat.le_of_ble_eq_true rfl) trivial ?_
    refine r_jn (α := Unit) (σJ := fun a5 => r2.2) (pcJ := 45) (LJ := fun a5 => [(0, .ref (tw_zB z + 442))]) (stJ := fun a5 => []) (ok := fun a5 => True) (fun a5 hoka5 => ?_) (fun j6 hj6 => ?_)
    ·
      refine r_aload_n X dX12_letter_45 rfl 0 rfl ?_
      refine r_bipush X dX12_letter_46 (v := (-2 : Int32)) (by decide) ?_
      refine r_aload_n X dX12_letter_48 rfl 0 rfl ?_
      refine tw_g12_4 (k := 442) (v := .int (r2.2 442 4)) X dX12_letter_49 _ tw_w1256 tw_kc442 rfl ?_
      refine r_bd (fun r7 hr7 => ?_)
      refine tw_c_X12_report X dX12_letter_52 _ tw_w1385  hr7 (tw_le hfr rfl) (tw_le hlo rfl) hcs (Nat.le_of_ble_eq_true rfl) trivial ?_
      refine r_iconst X dX12_letter_55 (v := (0 : Int32)) (by decide) ?_
      exact r_iret X dX12_letter_56 hret hQ rfl
    refine r_if_eq X dX12_letter_22 (tgt := 45) (by decide) ?_ ?_
    ·
      exact tw_Rf.sub [1] rfl (hj6 () trivial)
    ·
      refine r_aload_n X dX12_letter_25 rfl 1 rfl ?_
      refine r_aload_n X dX12_letter_26 rfl 1 rfl ?_
      refine tw_g12_4 (k := 442) (v := .int (r2.2 442 4)) X dX12_letter_27 _ tw_w1256 tw_kc442 rfl ?_
      refine r_iconst X dX12_letter_30 (v := (1 : Int32)) (by decide) ?_
      refine r_iadd X dX12_letter_31 ?_
      refine r_bd (fun r8 hr8 => ?_)
      refine tw_c_X12_byteAt X dX12_letter_32 _ tw_w1379  hr8 (tw_le hfr rfl) (tw_le hlo rfl) hcs (Nat.le_of_ble_eq_true rfl) trivial ?_
      refine r_bipush X dX12_letter_35 (v := (97 : Int32)) (by decide) ?_
      refine r_bipush X dX12_letter_37 (v := (122 : Int32)) (by decide) ?_
      refine r_bd (fun r9 hr9 => ?_)
      refine tw_c_X12_in X dX12_letter_39 _ tw_w1359  hr9 (tw_le hfr rfl) (tw_le hlo rfl) hcs (Nat.le_of_ble_eq_true rfl) trivial ?_
      refine r_if_eq X dX12_letter_42 (tgt := 57) (by decide) ?_ ?_
      ·
        refine r_aload_n X dX12_letter_57 rfl 1 rfl ?_
        refine r_dup X dX12_letter_58 rfl ?_
        refine tw_g12_4 (k := 442) (v := .int (r2.2 442 4)) X dX12_letter_59 _ tw_w1256 tw_kc442 rfl ?_
        refine r_iconst X dX12_letter_62 (v := (1 : Int32)) (by decide) ?_
        refine r_iadd X dX12_letter_63 ?_
        refine tw_s12_4 (k := 442) X dX12_letter_64 _ tw_w1256 tw_kc442 (fun σ10 => ?_)
        refine r_iload_n X dX12_letter_67 rfl 0 rfl ?_
        refine r_bipush X dX12_letter_68 (v := (97 : Int32)) (by decide) ?_
        refine r_isub X dX12_letter_70 ?_
        exact r_iret X dX12_letter_71 hret hQ rfl
      ·
        exact tw_Rf.sub [1] rfl (hj6 () trivial)
  ·
    refine r_iconst X dX12_letter_7 (v := (0 : Int32)) (by decide) ?_
    exact r_iret X dX12_letter_8 hret hQ rfl
theorem tw_c_X12_letter {ρ : Type} {z : tw_Z} {cc : ByteArray} {own : String} {nL pc : Nat} {σ : tw_Sg} {L : List (Nat × Value)} {st : List Value} {ix : Nat} {n : Nat}  (X : tw_X z cc own nL) (d : decode cc pc = .ok (.invokevirtual ix, 3)) (i : Nat) (hi : lw_tbl[i]? = some (.methodLink own ix yX12_letter))  {res : ρ} {E : Option ρ} {r : Int32 × tw_Sg} (h : tw_P_X12_letter n σ = some r) (h1 : 3 ≤ (tw_zR z).frames) (h2 : 62 ≤ (tw_zR z).locals) (hcs : tw_zcells z ≤ (tw_zR z).cells ∧ tw_zslots z ≤ (tw_zR z).slots) (hst : (st.map fun v => v.category).sum ≤ 8) (_ : True) (kk : tw_Rf z res E r.2 (pc + 3) L (.int r.1 :: st)) : tw_Rf z res E σ pc L (.ref (tw_zB z + 442) :: st) := r_callV (As := []) X d (tw_m_X12_letter  h) tw_y_X12_letter tw_v_X12_letter i hi rfl (tw_kd_lt tw_kc442 (by decide)) (tw_E12 tw_kc442) rfl ⟨rfl, rfl, h1, h2⟩ hcs hst rfl kk
def tw_P_X12_readLand (n : Nat)  (σ : tw_Sg) : Option (Int32 × tw_Sg) :=
tw_ck (tw_ok (0 : Int32) (tw_ln 445)) (
tw_bd (tw_P_X12_number n (0 : Int32) ((σ 445 (Int32.toNatClampNeg (0 : Int32))) - (1 : Int32)) σ) (fun r1 =>
tw_lt r1.1 (fun (v2 : Int32) =>
tw_lt (r1.2 442 12) (fun (v3 : Int32) =>
tw_ck (tw_ok (1 : Int32) (tw_ln 445)) (
tw_bd (tw_P_X12_number n (0 : Int32) ((r1.2 445 (Int32.toNatClampNeg (1 : Int32))) - (1 : Int32)) r1.2) (fun r4 =>
tw_lt r4.1 (fun (v5 : Int32) =>
tw_ck (tw_ok (0 : Int32) (tw_ln 445)) (
tw_lt ((v5 * (r4.2 445 (Int32.toNatClampNeg (0 : Int32)))) + v2) (fun (v6 : Int32) =>
tw_bd (tw_P_X12_isGood r4.2) (fun r7 =>
tw_jn (fun (a8 : tw_Sg) =>
some (v6, a8)) (fun (j9 : (tw_Sg) → Option (Int32 × tw_Sg)) =>
if r7 = 0 then (j9 r4.2)
else (tw_ck (tw_ok ((8 : Int32) + v6) (tw_ln 445)) (
if ¬ (r4.2 445 (Int32.toNatClampNeg ((8 : Int32) + v6))) = (1 : Int32) then (j9 r4.2)
else (tw_bd (tw_P_X12_report (-7 : Int32) v3 r4.2) (fun r10 =>
j9 r10)))))))))))))))
theorem tw_y_X12_readLand : tw_My yX12_readLand cX12_readLand 5 (some .int) 0 := ⟨List.mem_of_getElem? tw_w1449, List.mem_of_getElem? tw_w101, by decide +kernel, by decide +kernel, by decide +kernel⟩
theorem tw_v_X12_readLand : tw_Mv yX12_readLand "TreasureWalkModel" := ⟨List.mem_of_getElem? tw_w1448, List.mem_of_getElem? tw_w52, rfl⟩
set_option maxRecDepth 100000 in
set_option maxHeartbeats 4000000 in
theorem tw_m_X12_readLand {l : Launch} {B : Nat} {D : va_G} {C : Nat → ClassId} {S : Nat → Nat} {n : Nat}  {σ : tw_Sg}  {r : Int32 × tw_Sg} (h : tw_P_X12_readLand n σ = some r) : tw_Met l B D C S yX12_readLand cX12_readLand 5 (some .int) ({ frames := 3, cells := 0, slots := 0, locals := 65 } : Room) [.ref (B + 442)] σ (some (.int r.1)) r.2 := by
  refine tw_metOfP (tw_P_X12_readLand n σ) r h (fun r => (some (.int r.1), r.2)) (by decide +kernel) (Nat.le_of_ble_eq_true rfl) ⟨rfl, rfl⟩ ?_
  intro z el eB eD eC eS hfr hlo hcs X hret hQ
  subst el eB eD eC eS
  have X : tw_X z cX12_readLand "TreasureWalkModel" 5 := X
  show tw_Rf z r _ σ 0 [(0, .ref (tw_zB z + 442))] []
  unfold tw_P_X12_readLand
  refine r_aload_n X dX12_readLand_0 rfl 0 rfl ?_
  refine r_iconst X dX12_readLand_1 (v := (0 : Int32)) (by decide) ?_
  refine r_aload_n X dX12_readLand_2 rfl 0 rfl ?_
  refine tw_g12_9 (k := 442) (v := .ref (tw_zB z + 445)) X dX12_readLand_3 _ tw_w1261 tw_kc442 rfl ?_
  refine r_iconst X dX12_readLand_6 (v := (0 : Int32)) (by decide) ?_
  refine r_iald (k := 445) X dX12_readLand_7 tw_kc445 ?_
  refine r_iconst X dX12_readLand_8 (v := (1 : Int32)) (by decide) ?_
  refine r_isub X dX12_readLand_9 ?_
  refine r_bd (fun r1 hr1 => ?_)
  refine tw_c_X12_number X dX12_readLand_10 _ tw_w1389  hr1 (tw_le hfr rfl) (tw_le hlo rfl) hcs (Nat.le_of_ble_eq_true rfl) trivial ?_
  refine r_istore_n X dX12_readLand_13 rfl (by decide) (LL := fun v2 => [(1, .int v2), (0, .ref (tw_zB z + 442))]) (fun _ => rfl) (fun v2 => ?_)
  refine r_aload_n X dX12_readLand_14 rfl 1 rfl ?_
  refine tw_g12_12 (k := 442) (v := .int (r1.2 442 12)) X dX12_readLand_15 _ tw_w1264 tw_kc442 rfl ?_
  refine r_istore_n X dX12_readLand_18 rfl (by decide) (LL := fun v3 => [(2, .int v3), (1, .int v2), (0, .ref (tw_zB z + 442))]) (fun _ => rfl) (fun v3 => ?_)
  refine r_aload_n X dX12_readLand_19 rfl 2 rfl ?_
  refine r_iconst X dX12_readLand_20 (v := (0 : Int32)) (by decide) ?_
  refine r_aload_n X dX12_readLand_21 rfl 2 rfl ?_
  refine tw_g12_9 (k := 442) (v := .ref (tw_zB z + 445)) X dX12_readLand_22 _ tw_w1261 tw_kc442 rfl ?_
  refine r_iconst X dX12_readLand_25 (v := (1 : Int32)) (by decide) ?_
  refine r_iald (k := 445) X dX12_readLand_26 tw_kc445 ?_
  refine r_iconst X dX12_readLand_27 (v := (1 : Int32)) (by decide) ?_
  refine r_isub X dX12_readLand_28 ?_
  refine r_bd (fun r4 hr4 => ?_)
  refine tw_c_X12_number X dX12_readLand_29 _ tw_w1389  hr4 (tw_le hfr rfl) (tw_le hlo rfl) hcs (Nat.le_of_ble_eq_true rfl) trivial ?_
  refine r_istore_n X dX12_readLand_32 rfl (by decide) (LL := fun v5 => [(3, .int v5), (2, .int v3), (1, .int v2), (0, .ref (tw_zB z + 442))]) (fun _ => rfl) (fun v5 => ?_)
  refine r_iload_n X dX12_readLand_33 rfl 0 rfl ?_
  refine r_aload_n X dX12_readLand_34 rfl 3 rfl ?_
  refine tw_g12_9 (k := 442) (v := .ref (tw_zB z + 445)) X dX12_readLand_35 _ tw_w1261 tw_kc442 rfl ?_
  refine r_iconst X dX12_readLand_38 (v := (0 : Int32)) (by decide) ?_
  refine r_iald (k := 445) X dX12_readLand_39 tw_kc445 ?_
  refine r_imul X dX12_readLand_40 ?_
  refine r_iload_n X dX12_readLand_41 rfl 2 rfl ?_
  refine r_iadd X dX12_readLand_42 ?_
  refine r_istore X dX12_readLand_43 (by decide) (LL := fun v6 => [(4, .int v6), (3, .int v5), (2, .int v3), (1, .int v2), (0, .ref (tw_zB z + 442))]) (fun _ => rfl) (fun v6 => ?_)
  refine r_aload_n X dX12_readLand_45 rfl 4 rfl ?_
  refine r_bd (fun r7 hr7 => ?_)
  refine tw_c_X12_isGood X dX12_readLand_46 _ tw_w1371  hr7 (tw_le hfr rfl) (tw_le hlo rfl) hcs (Nat.le_of_ble_eq_true rfl) trivial ?_
  refine r_jn (α := tw_Sg) (σJ := fun a8 => a8) (pcJ := 73) (LJ := fun a8 => [(4, .int v6)]) (stJ := fun a8 => []) (ok := fun a8 => True) (fun a8 hoka8 => ?_) (fun j9 hj9 => ?_)
  ·
    refine r_iload X dX12_readLand_73 0 rfl ?_
    exact r_iret X dX12_readLand_75 hret hQ rfl
  refine r_if_eq X dX12_readLand_49 (tgt := 73) (by decide) ?_ ?_
  ·
    exact tw_Rf.sub [0] rfl (hj9 r4.2 trivial)
  ·
    refine r_aload_n X dX12_readLand_52 rfl 4 rfl ?_
    refine tw_g12_9 (k := 442) (v := .ref (tw_zB z + 445)) X dX12_readLand_53 _ tw_w1261 tw_kc442 rfl ?_
    refine r_bipush X dX12_readLand_56 (v := (8 : Int32)) (by decide) ?_
    refine r_iload X dX12_readLand_58 0 rfl ?_
    refine r_iadd X dX12_readLand_60 ?_
    refine r_iald (k := 445) X dX12_readLand_61 tw_kc445 ?_
    refine r_iconst X dX12_readLand_62 (v := (1 : Int32)) (by decide) ?_
    refine r_icmp_ne X dX12_readLand_63 (tgt := 73) (by decide) ?_ ?_
    ·
      exact tw_Rf.sub [0] rfl (hj9 r4.2 trivial)
    ·
      refine r_aload_n X dX12_readLand_66 rfl 4 rfl ?_
      refine r_bipush X dX12_readLand_67 (v := (-7 : Int32)) (by decide) ?_
      refine r_iload_n X dX12_readLand_69 rfl 2 rfl ?_
      refine r_bd (fun r10 hr10 => ?_)
      refine tw_c_X12_report X dX12_readLand_70 _ tw_w1385  hr10 (tw_le hfr rfl) (tw_le hlo rfl) hcs (Nat.le_of_ble_eq_true rfl) trivial ?_
      exact tw_Rf.sub [0] rfl (hj9 r10 trivial)
theorem tw_c_X12_readLand {ρ : Type} {z : tw_Z} {cc : ByteArray} {own : String} {nL pc : Nat} {σ : tw_Sg} {L : List (Nat × Value)} {st : List Value} {ix : Nat} {n : Nat}  (X : tw_X z cc own nL) (d : decode cc pc = .ok (.invokevirtual ix, 3)) (i : Nat) (hi : lw_tbl[i]? = some (.methodLink own ix yX12_readLand))  {res : ρ} {E : Option ρ} {r : Int32 × tw_Sg} (h : tw_P_X12_readLand n σ = some r) (h1 : 4 ≤ (tw_zR z).frames) (h2 : 89 ≤ (tw_zR z).locals) (hcs : tw_zcells z ≤ (tw_zR z).cells ∧ tw_zslots z ≤ (tw_zR z).slots) (hst : (st.map fun v => v.category).sum ≤ 8) (_ : True) (kk : tw_Rf z res E r.2 (pc + 3) L (.int r.1 :: st)) : tw_Rf z res E σ pc L (.ref (tw_zB z + 442) :: st) := r_callV (As := []) X d (tw_m_X12_readLand  h) tw_y_X12_readLand tw_v_X12_readLand i hi rfl (tw_kd_lt tw_kc442 (by decide)) (tw_E12 tw_kc442) rfl ⟨rfl, rfl, h1, h2⟩ hcs hst rfl kk
def tw_P_X12_readMark (n : Nat)  (σ : tw_Sg) : Option (tw_Sg) :=
tw_bd (tw_P_X12_letter n σ) (fun r1 =>
tw_lt r1.1 (fun (v2 : Int32) =>
tw_bd (tw_P_X12_isGood r1.2) (fun r3 =>
tw_jn (fun (a4 : tw_Sg) =>
tw_bd (tw_P_X12_readLand n a4) (fun r6 =>
tw_lt r6.1 (fun (v7 : Int32) =>
tw_bd (tw_P_X12_isGood r6.2) (fun r8 =>
tw_jn (fun (a9 : tw_Sg) =>
some a9) (fun (j10 : (tw_Sg) → Option (tw_Sg)) =>
if r8 = 0 then (j10 r6.2)
else (tw_ck (tw_ok ((808 : Int32) + v2) (tw_ln 445)) (tw_lt (tw_up r6.2 445 (Int32.toNatClampNeg ((808 : Int32) + v2)) v7) (fun (σ11 : tw_Sg) =>
j10 σ11)))))))) (fun (j5 : (tw_Sg) → Option (tw_Sg)) =>
if r3 = 0 then (j5 r1.2)
else (tw_ck (tw_ok ((808 : Int32) + v2) (tw_ln 445)) (
if (r1.2 445 (Int32.toNatClampNeg ((808 : Int32) + v2))) = (-1 : Int32) then (j5 r1.2)
else (tw_bd (tw_P_X12_report (-4 : Int32) ((r1.2 442 4) - (1 : Int32)) r1.2) (fun r12 =>
j5 r12))))))))
theorem tw_y_X12_readMark : tw_My yX12_readMark cX12_readMark 3 none 0 := ⟨List.mem_of_getElem? tw_w1441, List.mem_of_getElem? tw_w101, by decide +kernel, by decide +kernel, by decide +kernel⟩
theorem tw_v_X12_readMark : tw_Mv yX12_readMark "TreasureWalkModel" := ⟨List.mem_of_getElem? tw_w1440, List.mem_of_getElem? tw_w50, rfl⟩
set_option maxRecDepth 100000 in
set_option maxHeartbeats 4000000 in
theorem tw_m_X12_readMark {l : Launch} {B : Nat} {D : va_G} {C : Nat → ClassId} {S : Nat → Nat} {n : Nat}  {σ : tw_Sg}  {r : tw_Sg} (h : tw_P_X12_readMark n σ = some r) : tw_Met l B D C S yX12_readMark cX12_readMark 3 none ({ frames := 4, cells := 0, slots := 0, locals := 89 } : Room) [.ref (B + 442)] σ (none) r := by
  refine tw_metOfP (tw_P_X12_readMark n σ) r h (fun r => (none, r)) (by decide +kernel) (Nat.le_of_ble_eq_true rfl) ⟨rfl, rfl⟩ ?_
  intro z el eB eD eC eS hfr hlo hcs X hret hQ
  subst el eB eD eC eS
  have X : tw_X z cX12_readMark "TreasureWalkModel" 3 := X
  show tw_Rf z r _ σ 0 [(0, .ref (tw_zB z + 442))] []
  unfold tw_P_X12_readMark
  refine r_aload_n X dX12_readMark_0 rfl 0 rfl ?_
  refine r_bd (fun r1 hr1 => ?_)
  refine tw_c_X12_letter X dX12_readMark_1 _ tw_w1442  hr1 (tw_le hfr rfl) (tw_le hlo rfl) hcs (Nat.le_of_ble_eq_true rfl) trivial ?_
  refine r_istore_n X dX12_readMark_4 rfl (by decide) (LL := fun v2 => [(1, .int v2), (0, .ref (tw_zB z + 442))]) (fun _ => rfl) (fun v2 => ?_)
  refine r_aload_n X dX12_readMark_5 rfl 1 rfl ?_
  refine r_bd (fun r3 hr3 => ?_)
  refine tw_c_X12_isGood X dX12_readMark_6 _ tw_w1371  hr3 (tw_le hfr rfl) (tw_le hlo rfl) hcs (Nat.le_of_ble_eq_true rfl) trivial ?_
  refine r_jn (α := tw_Sg) (σJ := fun a4 => a4) (pcJ := 38) (LJ := fun a4 => [(1, .int v2), (0, .ref (tw_zB z + 442))]) (stJ := fun a4 => []) (ok := fun a4 => True) (fun a4 hoka4 => ?_) (fun j5 hj5 => ?_)
  ·
    refine r_aload_n X dX12_readMark_38 rfl 1 rfl ?_
    refine r_bd (fun r6 hr6 => ?_)
    refine tw_c_X12_readLand X dX12_readMark_39 _ tw_w1446  hr6 (tw_le hfr rfl) (tw_le hlo rfl) hcs (Nat.le_of_ble_eq_true rfl) trivial ?_
    refine r_istore_n X dX12_readMark_42 rfl (by decide) (LL := fun v7 => [(2, .int v7), (1, .int v2), (0, .ref (tw_zB z + 442))]) (fun _ => rfl) (fun v7 => ?_)
    refine r_aload_n X dX12_readMark_43 rfl 2 rfl ?_
    refine r_bd (fun r8 hr8 => ?_)
    refine tw_c_X12_isGood X dX12_readMark_44 _ tw_w1371  hr8 (tw_le hfr rfl) (tw_le hlo rfl) hcs (Nat.le_of_ble_eq_true rfl) trivial ?_
    refine r_jn (α := tw_Sg) (σJ := fun a9 => a9) (pcJ := 61) (LJ := fun a9 => []) (stJ := fun a9 => []) (ok := fun a9 => True) (fun a9 hoka9 => ?_) (fun j10 hj10 => ?_)
    ·
      exact r_vret X dX12_readMark_61 hret hQ rfl
    refine r_if_eq X dX12_readMark_47 (tgt := 61) (by decide) ?_ ?_
    ·
      exact tw_Rf.sub [] rfl (hj10 r6.2 trivial)
    ·
      refine r_aload_n X dX12_readMark_50 rfl 2 rfl ?_
      refine tw_g12_9 (k := 442) (v := .ref (tw_zB z + 445)) X dX12_readMark_51 _ tw_w1261 tw_kc442 rfl ?_
      refine r_sipush X dX12_readMark_54 (v := (808 : Int32)) (by decide) ?_
      refine r_iload_n X dX12_readMark_57 rfl 1 rfl ?_
      refine r_iadd X dX12_readMark_58 ?_
      refine r_iload_n X dX12_readMark_59 rfl 0 rfl ?_
      refine r_iast (k := 445) X dX12_readMark_60 tw_kc445 (fun σ11 => ?_)
      exact tw_Rf.sub [] rfl (hj10 σ11 trivial)
  refine r_if_eq X dX12_readMark_9 (tgt := 38) (by decide) ?_ ?_
  ·
    exact hj5 r1.2 trivial
  ·
    refine r_aload_n X dX12_readMark_12 rfl 1 rfl ?_
    refine tw_g12_9 (k := 442) (v := .ref (tw_zB z + 445)) X dX12_readMark_13 _ tw_w1261 tw_kc442 rfl ?_
    refine r_sipush X dX12_readMark_16 (v := (808 : Int32)) (by decide) ?_
    refine r_iload_n X dX12_readMark_19 rfl 0 rfl ?_
    refine r_iadd X dX12_readMark_20 ?_
    refine r_iald (k := 445) X dX12_readMark_21 tw_kc445 ?_
    refine r_iconst X dX12_readMark_22 (v := (-1 : Int32)) (by decide) ?_
    refine r_icmp_eq X dX12_readMark_23 (tgt := 38) (by decide) ?_ ?_
    ·
      exact hj5 r1.2 trivial
    ·
      refine r_aload_n X dX12_readMark_26 rfl 1 rfl ?_
      refine r_bipush X dX12_readMark_27 (v := (-4 : Int32)) (by decide) ?_
      refine r_aload_n X dX12_readMark_29 rfl 1 rfl ?_
      refine tw_g12_4 (k := 442) (v := .int (r1.2 442 4)) X dX12_readMark_30 _ tw_w1256 tw_kc442 rfl ?_
      refine r_iconst X dX12_readMark_33 (v := (1 : Int32)) (by decide) ?_
      refine r_isub X dX12_readMark_34 ?_
      refine r_bd (fun r12 hr12 => ?_)
      refine tw_c_X12_report X dX12_readMark_35 _ tw_w1385  hr12 (tw_le hfr rfl) (tw_le hlo rfl) hcs (Nat.le_of_ble_eq_true rfl) trivial ?_
      exact hj5 r12 trivial
theorem tw_c_X12_readMark {ρ : Type} {z : tw_Z} {cc : ByteArray} {own : String} {nL pc : Nat} {σ : tw_Sg} {L : List (Nat × Value)} {st : List Value} {ix : Nat} {n : Nat}  (X : tw_X z cc own nL) (d : decode cc pc = .ok (.invokevirtual ix, 3)) (i : Nat) (hi : lw_tbl[i]? = some (.methodLink own ix yX12_readMark))  {res : ρ} {E : Option ρ} {r : tw_Sg} (h : tw_P_X12_readMark n σ = some r) (h1 : 5 ≤ (tw_zR z).frames) (h2 : 111 ≤ (tw_zR z).locals) (hcs : tw_zcells z ≤ (tw_zR z).cells ∧ tw_zslots z ≤ (tw_zR z).slots) (hst : (st.map fun v => v.category).sum ≤ 8) (_ : True) (kk : tw_Rf z res E r (pc + 3) L (st)) : tw_Rf z res E σ pc L (.ref (tw_zB z + 442) :: st) := r_callV (As := []) X d (tw_m_X12_readMark  h) tw_y_X12_readMark tw_v_X12_readMark i hi rfl (tw_kd_lt tw_kc442 (by decide)) (tw_E12 tw_kc442) rfl ⟨rfl, rfl, h1, h2⟩ hcs hst rfl kk
def tw_P_X12_knownMark (n : Nat)  (σ : tw_Sg) : Option (Int32 × tw_Sg) :=
tw_bd (tw_P_X12_letter n σ) (fun r1 =>
tw_lt r1.1 (fun (v2 : Int32) =>
tw_bd (tw_P_X12_isGood r1.2) (fun r3 =>
tw_jn (fun (a4 : tw_Sg) =>
some (v2, a4)) (fun (j5 : (tw_Sg) → Option (Int32 × tw_Sg)) =>
if r3 = 0 then (j5 r1.2)
else (tw_ck (tw_ok ((808 : Int32) + v2) (tw_ln 445)) (
if ¬ (r1.2 445 (Int32.toNatClampNeg ((808 : Int32) + v2))) = (-1 : Int32) then (j5 r1.2)
else (tw_bd (tw_P_X12_report (-5 : Int32) ((r1.2 442 4) - (1 : Int32)) r1.2) (fun r6 =>
j5 r6))))))))
theorem tw_y_X12_knownMark : tw_My yX12_knownMark cX12_knownMark 2 (some .int) 0 := ⟨List.mem_of_getElem? tw_w1470, List.mem_of_getElem? tw_w101, by decide +kernel, by decide +kernel, by decide +kernel⟩
theorem tw_v_X12_knownMark : tw_Mv yX12_knownMark "TreasureWalkModel" := ⟨List.mem_of_getElem? tw_w1469, List.mem_of_getElem? tw_w56, rfl⟩
set_option maxRecDepth 100000 in
set_option maxHeartbeats 4000000 in
theorem tw_m_X12_knownMark {l : Launch} {B : Nat} {D : va_G} {C : Nat → ClassId} {S : Nat → Nat} {n : Nat}  {σ : tw_Sg}  {r : Int32 × tw_Sg} (h : tw_P_X12_knownMark n σ = some r) : tw_Met l B D C S yX12_knownMark cX12_knownMark 2 (some .int) ({ frames := 3, cells := 0, slots := 0, locals := 62 } : Room) [.ref (B + 442)] σ (some (.int r.1)) r.2 := by
  refine tw_metOfP (tw_P_X12_knownMark n σ) r h (fun r => (some (.int r.1), r.2)) (by decide +kernel) (Nat.le_of_ble_eq_true rfl) ⟨rfl, rfl⟩ ?_
  intro z el eB eD eC eS hfr hlo hcs X hret hQ
  subst el eB eD eC eS
  have X : tw_X z cX12_knownMark "TreasureWalkModel" 2 := X
  show tw_Rf z r _ σ 0 [(0, .ref (tw_zB z + 442))] []
  unfold tw_P_X12_knownMark
  refine r_aload_n X dX12_knownMark_0 rfl 0 rfl ?_
  refine r_bd (fun r1 hr1 => ?_)
  refine tw_c_X12_letter X dX12_knownMark_1 _ tw_w1442  hr1 (tw_le hfr rfl) (tw_le hlo rfl) hcs (Nat.le_of_ble_eq_true rfl) trivial ?_
  refine r_istore_n X dX12_knownMark_4 rfl (by decide) (LL := fun v2 => [(1, .int v2), (0, .ref (tw_zB z + 442))]) (fun _ => rfl) (fun v2 => ?_)
  refine r_aload_n X dX12_knownMark_5 rfl 1 rfl ?_
  refine r_bd (fun r3 hr3 => ?_)
  refine tw_c_X12_isGood X dX12_knownMark_6 _ tw_w1371  hr3 (tw_le hfr rfl) (tw_le hlo rfl) hcs (Nat.le_of_ble_eq_true rfl) trivial ?_
  refine r_jn (α := tw_Sg) (σJ := fun a4 => a4) (pcJ := 38) (LJ := fun a4 => [(1, .int v2)]) (stJ := fun a4 => []) (ok := fun a4 => True) (fun a4 hoka4 => ?_) (fun j5 hj5 => ?_)
  ·
    refine r_iload_n X dX12_knownMark_38 rfl 0 rfl ?_
    exact r_iret X dX12_knownMark_39 hret hQ rfl
  refine r_if_eq X dX12_knownMark_9 (tgt := 38) (by decide) ?_ ?_
  ·
    exact tw_Rf.sub [0] rfl (hj5 r1.2 trivial)
  ·
    refine r_aload_n X dX12_knownMark_12 rfl 1 rfl ?_
    refine tw_g12_9 (k := 442) (v := .ref (tw_zB z + 445)) X dX12_knownMark_13 _ tw_w1261 tw_kc442 rfl ?_
    refine r_sipush X dX12_knownMark_16 (v := (808 : Int32)) (by decide) ?_
    refine r_iload_n X dX12_knownMark_19 rfl 0 rfl ?_
    refine r_iadd X dX12_knownMark_20 ?_
    refine r_iald (k := 445) X dX12_knownMark_21 tw_kc445 ?_
    refine r_iconst X dX12_knownMark_22 (v := (-1 : Int32)) (by decide) ?_
    refine r_icmp_ne X dX12_knownMark_23 (tgt := 38) (by decide) ?_ ?_
    ·
      exact tw_Rf.sub [0] rfl (hj5 r1.2 trivial)
    ·
      refine r_aload_n X dX12_knownMark_26 rfl 1 rfl ?_
      refine r_bipush X dX12_knownMark_27 (v := (-5 : Int32)) (by decide) ?_
      refine r_aload_n X dX12_knownMark_29 rfl 1 rfl ?_
      refine tw_g12_4 (k := 442) (v := .int (r1.2 442 4)) X dX12_knownMark_30 _ tw_w1256 tw_kc442 rfl ?_
      refine r_iconst X dX12_knownMark_33 (v := (1 : Int32)) (by decide) ?_
      refine r_isub X dX12_knownMark_34 ?_
      refine r_bd (fun r6 hr6 => ?_)
      refine tw_c_X12_report X dX12_knownMark_35 _ tw_w1385  hr6 (tw_le hfr rfl) (tw_le hlo rfl) hcs (Nat.le_of_ble_eq_true rfl) trivial ?_
      exact tw_Rf.sub [0] rfl (hj5 r6 trivial)
theorem tw_c_X12_knownMark {ρ : Type} {z : tw_Z} {cc : ByteArray} {own : String} {nL pc : Nat} {σ : tw_Sg} {L : List (Nat × Value)} {st : List Value} {ix : Nat} {n : Nat}  (X : tw_X z cc own nL) (d : decode cc pc = .ok (.invokevirtual ix, 3)) (i : Nat) (hi : lw_tbl[i]? = some (.methodLink own ix yX12_knownMark))  {res : ρ} {E : Option ρ} {r : Int32 × tw_Sg} (h : tw_P_X12_knownMark n σ = some r) (h1 : 4 ≤ (tw_zR z).frames) (h2 : 83 ≤ (tw_zR z).locals) (hcs : tw_zcells z ≤ (tw_zR z).cells ∧ tw_zslots z ≤ (tw_zR z).slots) (hst : (st.map fun v => v.category).sum ≤ 8) (_ : True) (kk : tw_Rf z res E r.2 (pc + 3) L (.int r.1 :: st)) : tw_Rf z res E σ pc L (.ref (tw_zB z + 442) :: st) := r_callV (As := []) X d (tw_m_X12_knownMark  h) tw_y_X12_knownMark tw_v_X12_knownMark i hi rfl (tw_kd_lt tw_kc442 (by decide)) (tw_E12 tw_kc442) rfl ⟨rfl, rfl, h1, h2⟩ hcs hst rfl kk
def tw_P_X12_readStart (n : Nat) (x0 : Int32) (σ : tw_Sg) : Option (tw_Sg) :=
tw_bd (tw_P_X12_knownMark n σ) (fun r1 =>
tw_lt r1.1 (fun (v2 : Int32) =>
tw_lt (0 : Int32) (fun (v3 : Int32) =>
tw_lp (fun (k5 : (Int32 × tw_Sg) → Option (tw_Sg)) (a4 : Int32 × tw_Sg) =>
tw_ck (tw_ok (x0 + (1 : Int32)) (tw_ln 445)) (
if (a4.2 445 (Int32.toNatClampNeg (x0 + (1 : Int32)))) ≤ a4.1 then (tw_bd (tw_P_X12_isGood a4.2) (fun r6 =>
if ¬ r6 = 0 then (tw_ck (tw_ok (x0 + (1 : Int32)) (tw_ln 445)) (
tw_ck (tw_ok ((x0 + (3 : Int32)) + (a4.2 445 (Int32.toNatClampNeg (x0 + (1 : Int32))))) (tw_ln 445)) (tw_lt (tw_up a4.2 445 (Int32.toNatClampNeg ((x0 + (3 : Int32)) + (a4.2 445 (Int32.toNatClampNeg (x0 + (1 : Int32)))))) v2) (fun (σ7 : tw_Sg) =>
tw_ck (tw_ok (x0 + (1 : Int32)) (tw_ln 445)) (
tw_ck (tw_ok (x0 + (1 : Int32)) (tw_ln 445)) (tw_lt (tw_up σ7 445 (Int32.toNatClampNeg (x0 + (1 : Int32))) ((σ7 445 (Int32.toNatClampNeg (x0 + (1 : Int32)))) + (1 : Int32))) (fun (σ8 : tw_Sg) =>
some σ8)))))))
else (some a4.2)))
else (tw_bd (tw_P_X12_isGood a4.2) (fun r9 =>
tw_jn (fun (a10 : tw_Sg) =>
tw_lt (a4.1 + (1 : Int32)) (fun (v12 : Int32) =>
k5 (v12, a10))) (fun (j11 : (tw_Sg) → Option (tw_Sg)) =>
if r9 = 0 then (j11 a4.2)
else (tw_ck (tw_ok ((x0 + (3 : Int32)) + a4.1) (tw_ln 445)) (
if ¬ (a4.2 445 (Int32.toNatClampNeg ((x0 + (3 : Int32)) + a4.1))) = v2 then (j11 a4.2)
else (tw_bd (tw_P_X12_report (-4 : Int32) ((a4.2 442 4) - (1 : Int32)) a4.2) (fun r13 =>
j11 r13))))))))) n (v3, r1.2))))
theorem tw_y_X12_readStart : tw_My yX12_readStart cX12_readStart 4 none 1 := ⟨List.mem_of_getElem? tw_w1466, List.mem_of_getElem? tw_w101, by decide +kernel, by decide +kernel, by decide +kernel⟩
theorem tw_v_X12_readStart : tw_Mv yX12_readStart "TreasureWalkModel" := ⟨List.mem_of_getElem? tw_w1465, List.mem_of_getElem? tw_w55, rfl⟩
set_option maxRecDepth 100000 in
set_option maxHeartbeats 4000000 in
theorem tw_m_X12_readStart {l : Launch} {B : Nat} {D : va_G} {C : Nat → ClassId} {S : Nat → Nat} {n : Nat} {x0 : Int32} {σ : tw_Sg}  {r : tw_Sg} (h : tw_P_X12_readStart n x0 σ = some r) : tw_Met l B D C S yX12_readStart cX12_readStart 4 none ({ frames := 4, cells := 0, slots := 0, locals := 83 } : Room) [.ref (B + 442), .int x0] σ (none) r := by
  refine tw_metOfP (tw_P_X12_readStart n x0 σ) r h (fun r => (none, r)) (by decide +kernel) (Nat.le_of_ble_eq_true rfl) ⟨rfl, rfl⟩ ?_
  intro z el eB eD eC eS hfr hlo hcs X hret hQ
  subst el eB eD eC eS
  have X : tw_X z cX12_readStart "TreasureWalkModel" 4 := X
  show tw_Rf z r _ σ 0 [(0, .ref (tw_zB z + 442)), (1, .int x0)] []
  unfold tw_P_X12_readStart
  refine r_aload_n X dX12_readStart_0 rfl 0 rfl ?_
  refine r_bd (fun r1 hr1 => ?_)
  refine tw_c_X12_knownMark X dX12_readStart_1 _ tw_w1467  hr1 (tw_le hfr rfl) (tw_le hlo rfl) hcs (Nat.le_of_ble_eq_true rfl) trivial ?_
  refine r_istore_n X dX12_readStart_4 rfl (by decide) (LL := fun v2 => [(2, .int v2), (0, .ref (tw_zB z + 442)), (1, .int x0)]) (fun _ => rfl) (fun v2 => ?_)
  refine r_iconst X dX12_readStart_5 (v := (0 : Int32)) (by decide) ?_
  refine r_istore_n X dX12_readStart_6 rfl (by decide) (LL := fun v3 => [(3, .int v3), (2, .int v2), (0, .ref (tw_zB z + 442)), (1, .int x0)]) (fun _ => rfl) (fun v3 => ?_)
  refine r_lp (α := Int32 × tw_Sg) (σJ := fun a4 => a4.2) (pcJ := 7) (LJ := fun a4 => [(3, .int a4.1), (2, .int v2), (0, .ref (tw_zB z + 442)), (1, .int x0)]) (stJ := fun a4 => []) (fun k5 hk5 a4 => ?_) n (v3, r1.2)
  refine r_iload_n X dX12_readStart_7 rfl 0 rfl ?_
  refine r_aload_n X dX12_readStart_8 rfl 2 rfl ?_
  refine tw_g12_9 (k := 442) (v := .ref (tw_zB z + 445)) X dX12_readStart_9 _ tw_w1261 tw_kc442 rfl ?_
  refine r_iload_n X dX12_readStart_12 rfl 3 rfl ?_
  refine r_iconst X dX12_readStart_13 (v := (1 : Int32)) (by decide) ?_
  refine r_iadd X dX12_readStart_14 ?_
  refine r_iald (k := 445) X dX12_readStart_15 tw_kc445 ?_
  refine r_icmp_ge X dX12_readStart_16 (tgt := 58) (by decide) ?_ ?_
  ·
    refine r_aload_n X dX12_readStart_58 rfl 2 rfl ?_
    refine r_bd (fun r6 hr6 => ?_)
    refine tw_c_X12_isGood X dX12_readStart_59 _ tw_w1371  hr6 (tw_le hfr rfl) (tw_le hlo rfl) hcs (Nat.le_of_ble_eq_true rfl) trivial ?_
    refine r_if_ne X dX12_readStart_62 (tgt := 66) (by decide) ?_ ?_
    ·
      refine r_aload_n X dX12_readStart_66 rfl 2 rfl ?_
      refine tw_g12_9 (k := 442) (v := .ref (tw_zB z + 445)) X dX12_readStart_67 _ tw_w1261 tw_kc442 rfl ?_
      refine r_iload_n X dX12_readStart_70 rfl 3 rfl ?_
      refine r_iconst X dX12_readStart_71 (v := (3 : Int32)) (by decide) ?_
      refine r_iadd X dX12_readStart_72 ?_
      refine r_aload_n X dX12_readStart_73 rfl 2 rfl ?_
      refine tw_g12_9 (k := 442) (v := .ref (tw_zB z + 445)) X dX12_readStart_74 _ tw_w1261 tw_kc442 rfl ?_
      refine r_iload_n X dX12_readStart_77 rfl 3 rfl ?_
      refine r_iconst X dX12_readStart_78 (v := (1 : Int32)) (by decide) ?_
      refine r_iadd X dX12_readStart_79 ?_
      refine r_iald (k := 445) X dX12_readStart_80 tw_kc445 ?_
      refine r_iadd X dX12_readStart_81 ?_
      refine r_iload_n X dX12_readStart_82 rfl 1 rfl ?_
      refine r_iast (k := 445) X dX12_readStart_83 tw_kc445 (fun σ7 => ?_)
      refine r_aload_n X dX12_readStart_84 rfl 2 rfl ?_
      refine tw_g12_9 (k := 442) (v := .ref (tw_zB z + 445)) X dX12_readStart_85 _ tw_w1261 tw_kc442 rfl ?_
      refine r_iload_n X dX12_readStart_88 rfl 3 rfl ?_
      refine r_iconst X dX12_readStart_89 (v := (1 : Int32)) (by decide) ?_
      refine r_iadd X dX12_readStart_90 ?_
      refine r_dup2 X dX12_readStart_91 rfl rfl ?_
      refine r_iald (k := 445) X dX12_readStart_92 tw_kc445 ?_
      refine r_iconst X dX12_readStart_93 (v := (1 : Int32)) (by decide) ?_
      refine r_iadd X dX12_readStart_94 ?_
      refine r_iast (k := 445) X dX12_readStart_95 tw_kc445 (fun σ8 => ?_)
      exact r_vret X dX12_readStart_96 hret hQ rfl
    ·
      exact r_vret X dX12_readStart_65 hret hQ rfl
  ·
    refine r_aload_n X dX12_readStart_19 rfl 2 rfl ?_
    refine r_bd (fun r9 hr9 => ?_)
    refine tw_c_X12_isGood X dX12_readStart_20 _ tw_w1371  hr9 (tw_le hfr rfl) (tw_le hlo rfl) hcs (Nat.le_of_ble_eq_true rfl) trivial ?_
    refine r_jn (α := tw_Sg) (σJ := fun a10 => a10) (pcJ := 52) (LJ := fun a10 => [(3, .int a4.1), (2, .int v2), (0, .ref (tw_zB z + 442)), (1, .int x0)]) (stJ := fun a10 => []) (ok := fun a10 => True) (fun a10 hoka10 => ?_) (fun j11 hj11 => ?_)
    ·
      refine r_iinc X dX12_readStart_52 0 rfl (v := (1 : Int32)) (by decide) (by decide) (LL := fun v12 => [(3, .int v12), (2, .int v2), (0, .ref (tw_zB z + 442)), (1, .int x0)]) (fun _ => rfl) (fun v12 => ?_)
      refine r_goto X dX12_readStart_55 (tgt := 7) (by decide) ?_
      exact hk5 (v12, a10)
    refine r_if_eq X dX12_readStart_23 (tgt := 52) (by decide) ?_ ?_
    ·
      exact hj11 a4.2 trivial
    ·
      refine r_aload_n X dX12_readStart_26 rfl 2 rfl ?_
      refine tw_g12_9 (k := 442) (v := .ref (tw_zB z + 445)) X dX12_readStart_27 _ tw_w1261 tw_kc442 rfl ?_
      refine r_iload_n X dX12_readStart_30 rfl 3 rfl ?_
      refine r_iconst X dX12_readStart_31 (v := (3 : Int32)) (by decide) ?_
      refine r_iadd X dX12_readStart_32 ?_
      refine r_iload_n X dX12_readStart_33 rfl 0 rfl ?_
      refine r_iadd X dX12_readStart_34 ?_
      refine r_iald (k := 445) X dX12_readStart_35 tw_kc445 ?_
      refine r_iload_n X dX12_readStart_36 rfl 1 rfl ?_
      refine r_icmp_ne X dX12_readStart_37 (tgt := 52) (by decide) ?_ ?_
      ·
        exact hj11 a4.2 trivial
      ·
        refine r_aload_n X dX12_readStart_40 rfl 2 rfl ?_
        refine r_bipush X dX12_readStart_41 (v := (-4 : Int32)) (by decide) ?_
        refine r_aload_n X dX12_readStart_43 rfl 2 rfl ?_
        refine tw_g12_4 (k := 442) (v := .int (a4.2 442 4)) X dX12_readStart_44 _ tw_w1256 tw_kc442 rfl ?_
        refine r_iconst X dX12_readStart_47 (v := (1 : Int32)) (by decide) ?_
        refine r_isub X dX12_readStart_48 ?_
        refine r_bd (fun r13 hr13 => ?_)
        refine tw_c_X12_report X dX12_readStart_49 _ tw_w1385  hr13 (tw_le hfr rfl) (tw_le hlo rfl) hcs (Nat.le_of_ble_eq_true rfl) trivial ?_
        exact hj11 r13 trivial
theorem tw_c_X12_readStart {ρ : Type} {z : tw_Z} {cc : ByteArray} {own : String} {nL pc : Nat} {σ : tw_Sg} {L : List (Nat × Value)} {st : List Value} {ix : Nat} {n : Nat} {x0 : Int32} (X : tw_X z cc own nL) (d : decode cc pc = .ok (.invokevirtual ix, 3)) (i : Nat) (hi : lw_tbl[i]? = some (.methodLink own ix yX12_readStart))  {res : ρ} {E : Option ρ} {r : tw_Sg} (h : tw_P_X12_readStart n x0 σ = some r) (h1 : 5 ≤ (tw_zR z).frames) (h2 : 106 ≤ (tw_zR z).locals) (hcs : tw_zcells z ≤ (tw_zR z).cells ∧ tw_zslots z ≤ (tw_zR z).slots) (hst : (st.map fun v => v.category).sum ≤ 8) (_ : True) (kk : tw_Rf z res E r (pc + 3) L (st)) : tw_Rf z res E σ pc L (.int x0 :: .ref (tw_zB z + 442) :: st) := r_callV (As := [.int x0]) X d (tw_m_X12_readStart  h) tw_y_X12_readStart tw_v_X12_readStart i hi rfl (tw_kd_lt tw_kc442 (by decide)) (tw_E12 tw_kc442) rfl ⟨rfl, rfl, h1, h2⟩ hcs hst rfl kk
def tw_P_X12_bearing (n : Nat)  (σ : tw_Sg) : Option (Int32 × tw_Sg) :=
tw_bd (tw_P_X12_isGood σ) (fun r1 =>
if ¬ r1 = 0 then (tw_bd (tw_P_X12_takeWord n 13 σ) (fun r2 =>
tw_jn (fun (a3 : Int32 × tw_Sg) =>
tw_lt a3.1 (fun (v5 : Int32) =>
tw_jn (fun (a6 : tw_Sg) =>
some (v5, a6)) (fun (j7 : (tw_Sg) → Option (Int32 × tw_Sg)) =>
if ¬ v5 = (-1 : Int32) then (j7 a3.2)
else (tw_bd (tw_P_X12_report (-2 : Int32) (a3.2 442 4) a3.2) (fun r8 =>
j7 r8))))) (fun (j4 : (Int32 × tw_Sg) → Option (Int32 × tw_Sg)) =>
if r2.1 = 0 then (tw_bd (tw_P_X12_takeWord n 14 r2.2) (fun r9 =>
if r9.1 = 0 then (tw_bd (tw_P_X12_takeWord n 15 r9.2) (fun r10 =>
if r10.1 = 0 then (tw_bd (tw_P_X12_takeWord n 16 r10.2) (fun r11 =>
if r11.1 = 0 then (tw_bd (tw_P_X12_takeWord n 17 r11.2) (fun r12 =>
if r12.1 = 0 then (tw_bd (tw_P_X12_takeWord n 18 r12.2) (fun r13 =>
if r13.1 = 0 then (tw_bd (tw_P_X12_takeWord n 19 r13.2) (fun r14 =>
if r14.1 = 0 then (tw_bd (tw_P_X12_takeWord n 20 r14.2) (fun r15 =>
if r15.1 = 0 then (j4 ((-1 : Int32), r15.2))
else (j4 ((7 : Int32), r15.2))))
else (j4 ((6 : Int32), r14.2))))
else (j4 ((5 : Int32), r13.2))))
else (j4 ((4 : Int32), r12.2))))
else (j4 ((3 : Int32), r11.2))))
else (j4 ((2 : Int32), r10.2))))
else (j4 ((1 : Int32), r9.2))))
else (j4 ((0 : Int32), r2.2)))))
else (some ((0 : Int32), σ)))
theorem tw_y_X12_bearing : tw_My yX12_bearing cX12_bearing 2 (some .int) 0 := ⟨List.mem_of_getElem? tw_w1482, List.mem_of_getElem? tw_w101, by decide +kernel, by decide +kernel, by decide +kernel⟩
theorem tw_v_X12_bearing : tw_Mv yX12_bearing "TreasureWalkModel" := ⟨List.mem_of_getElem? tw_w1481, List.mem_of_getElem? tw_w58, rfl⟩
set_option maxRecDepth 100000 in
set_option maxHeartbeats 4000000 in
theorem tw_m_X12_bearing {l : Launch} {B : Nat} {D : va_G} {C : Nat → ClassId} {S : Nat → Nat} {n : Nat}  {σ : tw_Sg}  {r : Int32 × tw_Sg} (h : tw_P_X12_bearing n σ = some r) : tw_Met l B D C S yX12_bearing cX12_bearing 2 (some .int) ({ frames := 7, cells := 0, slots := 0, locals := 142 } : Room) [.ref (B + 442)] σ (some (.int r.1)) r.2 := by
  refine tw_metOfP (tw_P_X12_bearing n σ) r h (fun r => (some (.int r.1), r.2)) (by decide +kernel) (Nat.le_of_ble_eq_true rfl) ⟨rfl, rfl⟩ ?_
  intro z el eB eD eC eS hfr hlo hcs X hret hQ
  subst el eB eD eC eS
  have X : tw_X z cX12_bearing "TreasureWalkModel" 2 := X
  show tw_Rf z r _ σ 0 [(0, .ref (tw_zB z + 442))] []
  unfold tw_P_X12_bearing
  refine r_aload_n X dX12_bearing_0 rfl 0 rfl ?_
  refine r_bd (fun r1 hr1 => ?_)
  refine tw_c_X12_isGood X dX12_bearing_1 _ tw_w1371  hr1 (tw_le hfr rfl) (tw_le hlo rfl) hcs (Nat.le_of_ble_eq_true rfl) trivial ?_
  refine r_if_ne X dX12_bearing_4 (tgt := 9) (by decide) ?_ ?_
  ·
    refine r_aload_n X dX12_bearing_9 rfl 0 rfl ?_
    refine r_ldcS X dX12_bearing_10 (j := 13) tw_l_M_179 ?_
    refine r_bd (fun r2 hr2 => ?_)
    refine tw_c_X12_takeWord X dX12_bearing_12 _ tw_w1367 (by decide) hr2 (tw_le hfr rfl) (tw_le hlo rfl) hcs (Nat.le_of_ble_eq_true rfl) trivial ?_
    refine r_jn (α := Int32 × tw_Sg) (σJ := fun a3 => a3.2) (pcJ := 116) (LJ := fun a3 => [(0, .ref (tw_zB z + 442))]) (stJ := fun a3 => [.int a3.1]) (ok := fun a3 => True) (fun a3 hoka3 => ?_) (fun j4 hj4 => ?_)
    ·
      refine r_istore_n X dX12_bearing_116 rfl (by decide) (LL := fun v5 => [(1, .int v5), (0, .ref (tw_zB z + 442))]) (fun _ => rfl) (fun v5 => ?_)
      refine r_iload_n X dX12_bearing_117 rfl 0 rfl ?_
      refine r_iconst X dX12_bearing_118 (v := (-1 : Int32)) (by decide) ?_
      refine r_jn (α := tw_Sg) (σJ := fun a6 => a6) (pcJ := 132) (LJ := fun a6 => [(1, .int v5)]) (stJ := fun a6 => []) (ok := fun a6 => True) (fun a6 hoka6 => ?_) (fun j7 hj7 => ?_)
      ·
        refine r_iload_n X dX12_bearing_132 rfl 0 rfl ?_
        exact r_iret X dX12_bearing_133 hret hQ rfl
      refine r_icmp_ne X dX12_bearing_119 (tgt := 132) (by decide) ?_ ?_
      ·
        exact tw_Rf.sub [0] rfl (hj7 a3.2 trivial)
      ·
        refine r_aload_n X dX12_bearing_122 rfl 1 rfl ?_
        refine r_bipush X dX12_bearing_123 (v := (-2 : Int32)) (by decide) ?_
        refine r_aload_n X dX12_bearing_125 rfl 1 rfl ?_
        refine tw_g12_4 (k := 442) (v := .int (a3.2 442 4)) X dX12_bearing_126 _ tw_w1256 tw_kc442 rfl ?_
        refine r_bd (fun r8 hr8 => ?_)
        refine tw_c_X12_report X dX12_bearing_129 _ tw_w1385  hr8 (tw_le hfr rfl) (tw_le hlo rfl) hcs (Nat.le_of_ble_eq_true rfl) trivial ?_
        exact tw_Rf.sub [0] rfl (hj7 r8 trivial)
    refine r_if_eq X dX12_bearing_15 (tgt := 22) (by decide) ?_ ?_
    ·
      refine r_aload_n X dX12_bearing_22 rfl 0 rfl ?_
      refine r_ldcS X dX12_bearing_23 (j := 14) tw_l_M_181 ?_
      refine r_bd (fun r9 hr9 => ?_)
      refine tw_c_X12_takeWord X dX12_bearing_25 _ tw_w1367 (by decide) hr9 (tw_le hfr rfl) (tw_le hlo rfl) hcs (Nat.le_of_ble_eq_true rfl) trivial ?_
      refine r_if_eq X dX12_bearing_28 (tgt := 35) (by decide) ?_ ?_
      ·
        refine r_aload_n X dX12_bearing_35 rfl 0 rfl ?_
        refine r_ldcS X dX12_bearing_36 (j := 15) tw_l_M_183 ?_
        refine r_bd (fun r10 hr10 => ?_)
        refine tw_c_X12_takeWord X dX12_bearing_38 _ tw_w1367 (by decide) hr10 (tw_le hfr rfl) (tw_le hlo rfl) hcs (Nat.le_of_ble_eq_true rfl) trivial ?_
        refine r_if_eq X dX12_bearing_41 (tgt := 48) (by decide) ?_ ?_
        ·
          refine r_aload_n X dX12_bearing_48 rfl 0 rfl ?_
          refine r_ldcS X dX12_bearing_49 (j := 16) tw_l_M_185 ?_
          refine r_bd (fun r11 hr11 => ?_)
          refine tw_c_X12_takeWord X dX12_bearing_51 _ tw_w1367 (by decide) hr11 (tw_le hfr rfl) (tw_le hlo rfl) hcs (Nat.le_of_ble_eq_true rfl) trivial ?_
          refine r_if_eq X dX12_bearing_54 (tgt := 61) (by decide) ?_ ?_
          ·
            refine r_aload_n X dX12_bearing_61 rfl 0 rfl ?_
            refine r_ldcS X dX12_bearing_62 (j := 17) tw_l_M_187 ?_
            refine r_bd (fun r12 hr12 => ?_)
            refine tw_c_X12_takeWord X dX12_bearing_64 _ tw_w1367 (by decide) hr12 (tw_le hfr rfl) (tw_le hlo rfl) hcs (Nat.le_of_ble_eq_true rfl) trivial ?_
            refine r_if_eq X dX12_bearing_67 (tgt := 74) (by decide) ?_ ?_
            ·
              refine r_aload_n X dX12_bearing_74 rfl 0 rfl ?_
              refine r_ldcS X dX12_bearing_75 (j := 18) tw_l_M_189 ?_
              refine r_bd (fun r13 hr13 => ?_)
              refine tw_c_X12_takeWord X dX12_bearing_77 _ tw_w1367 (by decide) hr13 (tw_le hfr rfl) (tw_le hlo rfl) hcs (Nat.le_of_ble_eq_true rfl) trivial ?_
              refine r_if_eq X dX12_bearing_80 (tgt := 87) (by decide) ?_ ?_
              ·
                refine r_aload_n X dX12_bearing_87 rfl 0 rfl ?_
                refine r_ldcS X dX12_bearing_88 (j := 19) tw_l_M_191 ?_
                refine r_bd (fun r14 hr14 => ?_)
                refine tw_c_X12_takeWord X dX12_bearing_90 _ tw_w1367 (by decide) hr14 (tw_le hfr rfl) (tw_le hlo rfl) hcs (Nat.le_of_ble_eq_true rfl) trivial ?_
                refine r_if_eq X dX12_bearing_93 (tgt := 101) (by decide) ?_ ?_
                ·
                  refine r_aload_n X dX12_bearing_101 rfl 0 rfl ?_
                  refine r_ldcS X dX12_bearing_102 (j := 20) tw_l_M_193 ?_
                  refine r_bd (fun r15 hr15 => ?_)
                  refine tw_c_X12_takeWord X dX12_bearing_104 _ tw_w1367 (by decide) hr15 (tw_le hfr rfl) (tw_le hlo rfl) hcs (Nat.le_of_ble_eq_true rfl) trivial ?_
                  refine r_if_eq X dX12_bearing_107 (tgt := 115) (by decide) ?_ ?_
                  ·
                    refine r_iconst X dX12_bearing_115 (v := (-1 : Int32)) (by decide) ?_
                    exact hj4 ((-1 : Int32), r15.2) trivial
                  ·
                    refine r_bipush X dX12_bearing_110 (v := (7 : Int32)) (by decide) ?_
                    refine r_goto X dX12_bearing_112 (tgt := 116) (by decide) ?_
                    exact hj4 ((7 : Int32), r15.2) trivial
                ·
                  refine r_bipush X dX12_bearing_96 (v := (6 : Int32)) (by decide) ?_
                  refine r_goto X dX12_bearing_98 (tgt := 116) (by decide) ?_
                  exact hj4 ((6 : Int32), r14.2) trivial
              ·
                refine r_iconst X dX12_bearing_83 (v := (5 : Int32)) (by decide) ?_
                refine r_goto X dX12_bearing_84 (tgt := 116) (by decide) ?_
                exact hj4 ((5 : Int32), r13.2) trivial
            ·
              refine r_iconst X dX12_bearing_70 (v := (4 : Int32)) (by decide) ?_
              refine r_goto X dX12_bearing_71 (tgt := 116) (by decide) ?_
              exact hj4 ((4 : Int32), r12.2) trivial
          ·
            refine r_iconst X dX12_bearing_57 (v := (3 : Int32)) (by decide) ?_
            refine r_goto X dX12_bearing_58 (tgt := 116) (by decide) ?_
            exact hj4 ((3 : Int32), r11.2) trivial
        ·
          refine r_iconst X dX12_bearing_44 (v := (2 : Int32)) (by decide) ?_
          refine r_goto X dX12_bearing_45 (tgt := 116) (by decide) ?_
          exact hj4 ((2 : Int32), r10.2) trivial
      ·
        refine r_iconst X dX12_bearing_31 (v := (1 : Int32)) (by decide) ?_
        refine r_goto X dX12_bearing_32 (tgt := 116) (by decide) ?_
        exact hj4 ((1 : Int32), r9.2) trivial
    ·
      refine r_iconst X dX12_bearing_18 (v := (0 : Int32)) (by decide) ?_
      refine r_goto X dX12_bearing_19 (tgt := 116) (by decide) ?_
      exact hj4 ((0 : Int32), r2.2) trivial
  ·
    refine r_iconst X dX12_bearing_7 (v := (0 : Int32)) (by decide) ?_
    exact r_iret X dX12_bearing_8 hret hQ rfl
theorem tw_c_X12_bearing {ρ : Type} {z : tw_Z} {cc : ByteArray} {own : String} {nL pc : Nat} {σ : tw_Sg} {L : List (Nat × Value)} {st : List Value} {ix : Nat} {n : Nat}  (X : tw_X z cc own nL) (d : decode cc pc = .ok (.invokevirtual ix, 3)) (i : Nat) (hi : lw_tbl[i]? = some (.methodLink own ix yX12_bearing))  {res : ρ} {E : Option ρ} {r : Int32 × tw_Sg} (h : tw_P_X12_bearing n σ = some r) (h1 : 8 ≤ (tw_zR z).frames) (h2 : 163 ≤ (tw_zR z).locals) (hcs : tw_zcells z ≤ (tw_zR z).cells ∧ tw_zslots z ≤ (tw_zR z).slots) (hst : (st.map fun v => v.category).sum ≤ 8) (_ : True) (kk : tw_Rf z res E r.2 (pc + 3) L (.int r.1 :: st)) : tw_Rf z res E σ pc L (.ref (tw_zB z + 442) :: st) := r_callV (As := []) X d (tw_m_X12_bearing  h) tw_y_X12_bearing tw_v_X12_bearing i hi rfl (tw_kd_lt tw_kc442 (by decide)) (tw_E12 tw_kc442) rfl ⟨rfl, rfl, h1, h2⟩ hcs hst rfl kk
def tw_P_X12_readLeg (n : Nat) (x0 : Int32) (x1 : Int32) (σ : tw_Sg) : Option (tw_Sg) :=
tw_jn (fun (a1 : Int32 × tw_Sg) =>
tw_lt a1.1 (fun (v3 : Int32) =>
tw_bd (tw_P_X12_bearing n a1.2) (fun r4 =>
tw_lt r4.1 (fun (v5 : Int32) =>
tw_lt (0 : Int32) (fun (v6 : Int32) =>
tw_jn (fun (a7 : Int32 × tw_Sg) =>
tw_bd (tw_P_X12_isGood a7.2) (fun r9 =>
if ¬ r9 = 0 then (tw_ck (tw_ok (x0 + (2 : Int32)) (tw_ln 445)) (
tw_lt ((x0 + (11 : Int32)) + ((4 : Int32) * (a7.2 445 (Int32.toNatClampNeg (x0 + (2 : Int32)))))) (fun (v10 : Int32) =>
tw_ck (tw_ok (v10 + (0 : Int32)) (tw_ln 445)) (tw_lt (tw_up a7.2 445 (Int32.toNatClampNeg (v10 + (0 : Int32))) x1) (fun (σ11 : tw_Sg) =>
tw_ck (tw_ok (v10 + (1 : Int32)) (tw_ln 445)) (tw_lt (tw_up σ11 445 (Int32.toNatClampNeg (v10 + (1 : Int32))) v3) (fun (σ12 : tw_Sg) =>
tw_ck (tw_ok (v10 + (2 : Int32)) (tw_ln 445)) (tw_lt (tw_up σ12 445 (Int32.toNatClampNeg (v10 + (2 : Int32))) a7.1) (fun (σ13 : tw_Sg) =>
tw_ck (tw_ok (v10 + (3 : Int32)) (tw_ln 445)) (tw_lt (tw_up σ13 445 (Int32.toNatClampNeg (v10 + (3 : Int32))) v5) (fun (σ14 : tw_Sg) =>
tw_ck (tw_ok (x0 + (2 : Int32)) (tw_ln 445)) (
tw_ck (tw_ok (x0 + (2 : Int32)) (tw_ln 445)) (tw_lt (tw_up σ14 445 (Int32.toNatClampNeg (x0 + (2 : Int32))) ((σ14 445 (Int32.toNatClampNeg (x0 + (2 : Int32)))) + (1 : Int32))) (fun (σ15 : tw_Sg) =>
some σ15))))))))))))))
else (some a7.2))) (fun (j8 : (Int32 × tw_Sg) → Option (tw_Sg)) =>
if ¬ x1 = 0 then (j8 (v6, r4.2))
else (tw_bd (tw_P_X12_takeWord n 12 r4.2) (fun r16 =>
if r16.1 = 0 then (j8 (v6, r16.2))
else (tw_bd (tw_P_X12_number n (0 : Int32) (5 : Int32) r16.2) (fun r17 =>
tw_lt r17.1 (fun (v18 : Int32) =>
j8 (v18, r17.2)))))))))))) (fun (j2 : (Int32 × tw_Sg) → Option (tw_Sg)) =>
if ¬ x1 = 0 then (if ¬ x1 = (1 : Int32) then (j2 ((0 : Int32), σ))
else (tw_bd (tw_P_X12_knownMark n σ) (fun r19 =>
j2 (r19.1, r19.2))))
else (tw_bd (tw_P_X12_number n (0 : Int32) (30 : Int32) σ) (fun r20 =>
j2 (r20.1, r20.2))))
theorem tw_y_X12_readLeg : tw_My yX12_readLeg cX12_readLeg 7 none 2 := ⟨List.mem_of_getElem? tw_w1478, List.mem_of_getElem? tw_w101, by decide +kernel, by decide +kernel, by decide +kernel⟩
theorem tw_v_X12_readLeg : tw_Mv yX12_readLeg "TreasureWalkModel" := ⟨List.mem_of_getElem? tw_w1477, List.mem_of_getElem? tw_w57, rfl⟩
set_option maxRecDepth 100000 in
set_option maxHeartbeats 4000000 in
theorem tw_m_X12_readLeg {l : Launch} {B : Nat} {D : va_G} {C : Nat → ClassId} {S : Nat → Nat} {n : Nat} {x0 : Int32} {x1 : Int32} {σ : tw_Sg}  {r : tw_Sg} (h : tw_P_X12_readLeg n x0 x1 σ = some r) : tw_Met l B D C S yX12_readLeg cX12_readLeg 7 none ({ frames := 8, cells := 0, slots := 0, locals := 163 } : Room) [.ref (B + 442), .int x0, .int x1] σ (none) r := by
  refine tw_metOfP (tw_P_X12_readLeg n x0 x1 σ) r h (fun r => (none, r)) (by decide +kernel) (Nat.le_of_ble_eq_true rfl) ⟨rfl, rfl⟩ ?_
  intro z el eB eD eC eS hfr hlo hcs X hret hQ
  subst el eB eD eC eS
  have X : tw_X z cX12_readLeg "TreasureWalkModel" 7 := X
  show tw_Rf z r _ σ 0 [(0, .ref (tw_zB z + 442)), (1, .int x0), (2, .int x1)] []
  unfold tw_P_X12_readLeg
  refine r_iload_n X dX12_readLeg_0 rfl 2 rfl ?_
  refine r_jn (α := Int32 × tw_Sg) (σJ := fun a1 => a1.2) (pcJ := 27) (LJ := fun a1 => [(0, .ref (tw_zB z + 442)), (1, .int x0), (2, .int x1)]) (stJ := fun a1 => [.int a1.1]) (ok := fun a1 => True) (fun a1 hoka1 => ?_) (fun j2 hj2 => ?_)
  ·
    refine r_istore_n X dX12_readLeg_27 rfl (by decide) (LL := fun v3 => [(3, .int v3), (0, .ref (tw_zB z + 442)), (1, .int x0), (2, .int x1)]) (fun _ => rfl) (fun v3 => ?_)
    refine r_aload_n X dX12_readLeg_28 rfl 1 rfl ?_
    refine r_bd (fun r4 hr4 => ?_)
    refine tw_c_X12_bearing X dX12_readLeg_29 _ tw_w1479  hr4 (tw_le hfr rfl) (tw_le hlo rfl) hcs (Nat.le_of_ble_eq_true rfl) trivial ?_
    refine r_istore X dX12_readLeg_32 (by decide) (LL := fun v5 => [(4, .int v5), (3, .int v3), (0, .ref (tw_zB z + 442)), (1, .int x0), (2, .int x1)]) (fun _ => rfl) (fun v5 => ?_)
    refine r_iconst X dX12_readLeg_34 (v := (0 : Int32)) (by decide) ?_
    refine r_istore X dX12_readLeg_35 (by decide) (LL := fun v6 => [(5, .int v6), (4, .int v5), (3, .int v3), (0, .ref (tw_zB z + 442)), (1, .int x0), (2, .int x1)]) (fun _ => rfl) (fun v6 => ?_)
    refine r_iload_n X dX12_readLeg_37 rfl 5 rfl ?_
    refine r_jn (α := Int32 × tw_Sg) (σJ := fun a7 => a7.2) (pcJ := 58) (LJ := fun a7 => [(5, .int a7.1), (4, .int v5), (3, .int v3), (0, .ref (tw_zB z + 442)), (1, .int x0), (2, .int x1)]) (stJ := fun a7 => []) (ok := fun a7 => True) (fun a7 hoka7 => ?_) (fun j8 hj8 => ?_)
    ·
      refine r_aload_n X dX12_readLeg_58 rfl 3 rfl ?_
      refine r_bd (fun r9 hr9 => ?_)
      refine tw_c_X12_isGood X dX12_readLeg_59 _ tw_w1371  hr9 (tw_le hfr rfl) (tw_le hlo rfl) hcs (Nat.le_of_ble_eq_true rfl) trivial ?_
      refine r_if_ne X dX12_readLeg_62 (tgt := 66) (by decide) ?_ ?_
      ·
        refine r_iload_n X dX12_readLeg_66 rfl 4 rfl ?_
        refine r_bipush X dX12_readLeg_67 (v := (11 : Int32)) (by decide) ?_
        refine r_iadd X dX12_readLeg_69 ?_
        refine r_iconst X dX12_readLeg_70 (v := (4 : Int32)) (by decide) ?_
        refine r_aload_n X dX12_readLeg_71 rfl 3 rfl ?_
        refine tw_g12_9 (k := 442) (v := .ref (tw_zB z + 445)) X dX12_readLeg_72 _ tw_w1261 tw_kc442 rfl ?_
        refine r_iload_n X dX12_readLeg_75 rfl 4 rfl ?_
        refine r_iconst X dX12_readLeg_76 (v := (2 : Int32)) (by decide) ?_
        refine r_iadd X dX12_readLeg_77 ?_
        refine r_iald (k := 445) X dX12_readLeg_78 tw_kc445 ?_
        refine r_imul X dX12_readLeg_79 ?_
        refine r_iadd X dX12_readLeg_80 ?_
        refine r_istore X dX12_readLeg_81 (by decide) (LL := fun v10 => [(6, .int v10), (5, .int a7.1), (4, .int v5), (3, .int v3), (0, .ref (tw_zB z + 442)), (1, .int x0), (2, .int x1)]) (fun _ => rfl) (fun v10 => ?_)
        refine r_aload_n X dX12_readLeg_83 rfl 4 rfl ?_
        refine tw_g12_9 (k := 442) (v := .ref (tw_zB z + 445)) X dX12_readLeg_84 _ tw_w1261 tw_kc442 rfl ?_
        refine r_iload X dX12_readLeg_87 0 rfl ?_
        refine r_iconst X dX12_readLeg_89 (v := (0 : Int32)) (by decide) ?_
        refine r_iadd X dX12_readLeg_90 ?_
        refine r_iload_n X dX12_readLeg_91 rfl 6 rfl ?_
        refine r_iast (k := 445) X dX12_readLeg_92 tw_kc445 (fun σ11 => ?_)
        refine r_aload_n X dX12_readLeg_93 rfl 4 rfl ?_
        refine tw_g12_9 (k := 442) (v := .ref (tw_zB z + 445)) X dX12_readLeg_94 _ tw_w1261 tw_kc442 rfl ?_
        refine r_iload X dX12_readLeg_97 0 rfl ?_
        refine r_iconst X dX12_readLeg_99 (v := (1 : Int32)) (by decide) ?_
        refine r_iadd X dX12_readLeg_100 ?_
        refine r_iload_n X dX12_readLeg_101 rfl 3 rfl ?_
        refine r_iast (k := 445) X dX12_readLeg_102 tw_kc445 (fun σ12 => ?_)
        refine r_aload_n X dX12_readLeg_103 rfl 4 rfl ?_
        refine tw_g12_9 (k := 442) (v := .ref (tw_zB z + 445)) X dX12_readLeg_104 _ tw_w1261 tw_kc442 rfl ?_
        refine r_iload X dX12_readLeg_107 0 rfl ?_
        refine r_iconst X dX12_readLeg_109 (v := (2 : Int32)) (by decide) ?_
        refine r_iadd X dX12_readLeg_110 ?_
        refine r_iload X dX12_readLeg_111 1 rfl ?_
        refine r_iast (k := 445) X dX12_readLeg_113 tw_kc445 (fun σ13 => ?_)
        refine r_aload_n X dX12_readLeg_114 rfl 4 rfl ?_
        refine tw_g12_9 (k := 442) (v := .ref (tw_zB z + 445)) X dX12_readLeg_115 _ tw_w1261 tw_kc442 rfl ?_
        refine r_iload X dX12_readLeg_118 0 rfl ?_
        refine r_iconst X dX12_readLeg_120 (v := (3 : Int32)) (by decide) ?_
        refine r_iadd X dX12_readLeg_121 ?_
        refine r_iload X dX12_readLeg_122 2 rfl ?_
        refine r_iast (k := 445) X dX12_readLeg_124 tw_kc445 (fun σ14 => ?_)
        refine r_aload_n X dX12_readLeg_125 rfl 4 rfl ?_
        refine tw_g12_9 (k := 442) (v := .ref (tw_zB z + 445)) X dX12_readLeg_126 _ tw_w1261 tw_kc442 rfl ?_
        refine r_iload_n X dX12_readLeg_129 rfl 5 rfl ?_
        refine r_iconst X dX12_readLeg_130 (v := (2 : Int32)) (by decide) ?_
        refine r_iadd X dX12_readLeg_131 ?_
        refine r_dup2 X dX12_readLeg_132 rfl rfl ?_
        refine r_iald (k := 445) X dX12_readLeg_133 tw_kc445 ?_
        refine r_iconst X dX12_readLeg_134 (v := (1 : Int32)) (by decide) ?_
        refine r_iadd X dX12_readLeg_135 ?_
        refine r_iast (k := 445) X dX12_readLeg_136 tw_kc445 (fun σ15 => ?_)
        exact r_vret X dX12_readLeg_137 hret hQ rfl
      ·
        exact r_vret X dX12_readLeg_65 hret hQ rfl
    refine r_if_ne X dX12_readLeg_38 (tgt := 58) (by decide) ?_ ?_
    ·
      exact hj8 (v6, r4.2) trivial
    ·
      refine r_aload_n X dX12_readLeg_41 rfl 3 rfl ?_
      refine r_ldcS X dX12_readLeg_42 (j := 12) tw_l_M_198 ?_
      refine r_bd (fun r16 hr16 => ?_)
      refine tw_c_X12_takeWord X dX12_readLeg_44 _ tw_w1367 (by decide) hr16 (tw_le hfr rfl) (tw_le hlo rfl) hcs (Nat.le_of_ble_eq_true rfl) trivial ?_
      refine r_if_eq X dX12_readLeg_47 (tgt := 58) (by decide) ?_ ?_
      ·
        exact hj8 (v6, r16.2) trivial
      ·
        refine r_aload_n X dX12_readLeg_50 rfl 3 rfl ?_
        refine r_iconst X dX12_readLeg_51 (v := (0 : Int32)) (by decide) ?_
        refine r_iconst X dX12_readLeg_52 (v := (5 : Int32)) (by decide) ?_
        refine r_bd (fun r17 hr17 => ?_)
        refine tw_c_X12_number X dX12_readLeg_53 _ tw_w1389  hr17 (tw_le hfr rfl) (tw_le hlo rfl) hcs (Nat.le_of_ble_eq_true rfl) trivial ?_
        refine r_istore X dX12_readLeg_56 (by decide) (LL := fun v18 => [(5, .int v18), (4, .int v5), (3, .int v3), (0, .ref (tw_zB z + 442)), (1, .int x0), (2, .int x1)]) (fun _ => rfl) (fun v18 => ?_)
        exact hj8 (v18, r17.2) trivial
  refine r_if_ne X dX12_readLeg_1 (tgt := 14) (by decide) ?_ ?_
  ·
    refine r_iload_n X dX12_readLeg_14 rfl 2 rfl ?_
    refine r_iconst X dX12_readLeg_15 (v := (1 : Int32)) (by decide) ?_
    refine r_icmp_ne X dX12_readLeg_16 (tgt := 26) (by decide) ?_ ?_
    ·
      refine r_iconst X dX12_readLeg_26 (v := (0 : Int32)) (by decide) ?_
      exact hj2 ((0 : Int32), σ) trivial
    ·
      refine r_aload_n X dX12_readLeg_19 rfl 0 rfl ?_
      refine r_bd (fun r19 hr19 => ?_)
      refine tw_c_X12_knownMark X dX12_readLeg_20 _ tw_w1467  hr19 (tw_le hfr rfl) (tw_le hlo rfl) hcs (Nat.le_of_ble_eq_true rfl) trivial ?_
      refine r_goto X dX12_readLeg_23 (tgt := 27) (by decide) ?_
      exact hj2 (r19.1, r19.2) trivial
  ·
    refine r_aload_n X dX12_readLeg_4 rfl 0 rfl ?_
    refine r_iconst X dX12_readLeg_5 (v := (0 : Int32)) (by decide) ?_
    refine r_bipush X dX12_readLeg_6 (v := (30 : Int32)) (by decide) ?_
    refine r_bd (fun r20 hr20 => ?_)
    refine tw_c_X12_number X dX12_readLeg_8 _ tw_w1389  hr20 (tw_le hfr rfl) (tw_le hlo rfl) hcs (Nat.le_of_ble_eq_true rfl) trivial ?_
    refine r_goto X dX12_readLeg_11 (tgt := 27) (by decide) ?_
    exact hj2 (r20.1, r20.2) trivial
theorem tw_c_X12_readLeg {ρ : Type} {z : tw_Z} {cc : ByteArray} {own : String} {nL pc : Nat} {σ : tw_Sg} {L : List (Nat × Value)} {st : List Value} {ix : Nat} {n : Nat} {x0 : Int32} {x1 : Int32} (X : tw_X z cc own nL) (d : decode cc pc = .ok (.invokevirtual ix, 3)) (i : Nat) (hi : lw_tbl[i]? = some (.methodLink own ix yX12_readLeg))  {res : ρ} {E : Option ρ} {r : tw_Sg} (h : tw_P_X12_readLeg n x0 x1 σ = some r) (h1 : 9 ≤ (tw_zR z).frames) (h2 : 189 ≤ (tw_zR z).locals) (hcs : tw_zcells z ≤ (tw_zR z).cells ∧ tw_zslots z ≤ (tw_zR z).slots) (hst : (st.map fun v => v.category).sum ≤ 8) (_ : True) (kk : tw_Rf z res E r (pc + 3) L (st)) : tw_Rf z res E σ pc L (.int x1 :: .int x0 :: .ref (tw_zB z + 442) :: st) := r_callV (As := [.int x0, .int x1]) X d (tw_m_X12_readLeg  h) tw_y_X12_readLeg tw_v_X12_readLeg i hi rfl (tw_kd_lt tw_kc442 (by decide)) (tw_E12 tw_kc442) rfl ⟨rfl, rfl, h1, h2⟩ hcs hst rfl kk
def tw_P_X12_clueAt (x0 : Int32) (σ : tw_Sg) : Option (Int32) :=
some ((856 : Int32) + ((43 : Int32) * x0))
theorem tw_y_X12_clueAt : tw_My yX12_clueAt cX12_clueAt 1 (some .int) 1 := ⟨List.mem_of_getElem? tw_w1462, List.mem_of_getElem? tw_w101, by decide +kernel, by decide +kernel, by decide +kernel⟩
theorem tw_v_X12_clueAt : tw_Ms yX12_clueAt := List.mem_of_getElem? tw_w1461
set_option maxRecDepth 100000 in
set_option maxHeartbeats 4000000 in
theorem tw_m_X12_clueAt {l : Launch} {B : Nat} {D : va_G} {C : Nat → ClassId} {S : Nat → Nat} {x0 : Int32} {σ : tw_Sg}  {r : Int32} (h : tw_P_X12_clueAt x0 σ = some r) : tw_Met l B D C S yX12_clueAt cX12_clueAt 1 (some .int) ({ frames := 0, cells := 0, slots := 0, locals := 0 } : Room) [.int x0] σ (some (.int r)) σ := by
  refine tw_metOfP (tw_P_X12_clueAt x0 σ) r h (fun r => (some (.int r), σ)) (by decide +kernel) (Nat.le_of_ble_eq_true rfl) ⟨rfl, rfl⟩ ?_
  intro z el eB eD eC eS hfr hlo hcs X hret hQ
  subst el eB eD eC eS
  have X : tw_X z cX12_clueAt "TreasureWalkModel" 1 := X
  show tw_Rf z r _ σ 0 [(0, .int x0)] []
  unfold tw_P_X12_clueAt
  refine r_sipush X dX12_clueAt_0 (v := (856 : Int32)) (by decide) ?_
  refine r_bipush X dX12_clueAt_3 (v := (43 : Int32)) (by decide) ?_
  refine r_iload_n X dX12_clueAt_5 rfl 0 rfl ?_
  refine r_imul X dX12_clueAt_6 ?_
  refine r_iadd X dX12_clueAt_7 ?_
  exact r_iret X dX12_clueAt_8 hret hQ rfl
theorem tw_c_X12_clueAt {ρ : Type} {z : tw_Z} {cc : ByteArray} {own : String} {nL pc : Nat} {σ : tw_Sg} {L : List (Nat × Value)} {st : List Value} {ix : Nat} {x0 : Int32} (X : tw_X z cc own nL) (d : decode cc pc = .ok (.invokestatic ix, 3)) (i : Nat) (hi : lw_tbl[i]? = some (.methodLink own ix yX12_clueAt))  {res : ρ} {E : Option ρ} {r : Int32} (h : tw_P_X12_clueAt x0 σ = some r) (h1 : 1 ≤ (tw_zR z).frames) (h2 : 20 ≤ (tw_zR z).locals) (hcs : tw_zcells z ≤ (tw_zR z).cells ∧ tw_zslots z ≤ (tw_zR z).slots) (hst : (st.map fun v => v.category).sum ≤ 8) (_ : True) (kk : tw_Rf z res E σ (pc + 3) L (.int r :: st)) : tw_Rf z res E σ pc L (.int x0 :: st) := r_callS (As := [.int x0]) X d (tw_m_X12_clueAt  h) tw_y_X12_clueAt tw_v_X12_clueAt i hi rfl ⟨rfl, rfl, h1, h2⟩ hcs hst rfl kk
def tw_P_X12_readClue (n : Nat) (x0 : Int32) (σ : tw_Sg) : Option (tw_Sg) :=
tw_ck (tw_ok (3 : Int32) (tw_ln 445)) (
tw_jn (fun (a1 : tw_Sg) =>
tw_bd (tw_P_X12_isGood a1) (fun r3 =>
if ¬ r3 = 0 then (tw_ck (tw_ok (3 : Int32) (tw_ln 445)) (
tw_bd (tw_P_X12_clueAt (a1 445 (Int32.toNatClampNeg (3 : Int32))) a1) (fun r4 =>
tw_lt r4 (fun (v5 : Int32) =>
tw_bd (tw_P_X12_readStart n v5 a1) (fun r6 =>
tw_lp (fun (k8 : (tw_Sg) → Option (tw_Sg)) (a7 : tw_Sg) =>
tw_bd (tw_P_X12_takeWord n 8 a7) (fun r9 =>
if r9.1 = 0 then (tw_bd (tw_P_X12_isGood r9.2) (fun r10 =>
tw_lt r10 (fun (v11 : Int32) =>
tw_lp (fun (k13 : (Int32 × tw_Sg) → Option (tw_Sg)) (a12 : Int32 × tw_Sg) =>
if a12.1 = 0 then (tw_bd (tw_P_X12_isGood a12.2) (fun r14 =>
if ¬ r14 = 0 then (tw_ck (tw_ok (v5 + (0 : Int32)) (tw_ln 445)) (tw_lt (tw_up a12.2 445 (Int32.toNatClampNeg (v5 + (0 : Int32))) (1 : Int32)) (fun (σ15 : tw_Sg) =>
tw_ck (tw_ok (3 : Int32) (tw_ln 445)) (
tw_ck (tw_ok (3 : Int32) (tw_ln 445)) (tw_lt (tw_up σ15 445 (Int32.toNatClampNeg (3 : Int32)) ((σ15 445 (Int32.toNatClampNeg (3 : Int32))) + (1 : Int32))) (fun (σ16 : tw_Sg) =>
some σ16))))))
else (some a12.2)))
else (tw_bd (tw_P_X12_ahead n a12.2) (fun r17 =>
tw_lt (r17.2 442 4) (fun (v18 : Int32) =>
tw_bd (tw_P_X12_takeWord n 9 r17.2) (fun r19 =>
tw_jn (fun (a20 : Int32 × tw_Sg) =>
tw_lt a20.1 (fun (v22 : Int32) =>
tw_jn (fun (a23 : Int32) =>
tw_lt a23 (fun (v25 : Int32) =>
tw_jn (fun (a26 : tw_Sg) =>
tw_jn (fun (a28 : tw_Sg) =>
tw_jn (fun (a30 : Int32) =>
tw_lt a30 (fun (v32 : Int32) =>
k13 (v32, a28))) (fun (j31 : (Int32) → Option (tw_Sg)) =>
tw_jn (fun (a33 : Unit) =>
j31 (0 : Int32)) (fun (j34 : (Unit) → Option (tw_Sg)) =>
if v25 = 0 then (j34 ())
else (tw_bd (tw_P_X12_isGood a28) (fun r35 =>
if r35 = 0 then (j34 ())
else (j31 (1 : Int32))))))) (fun (j29 : (tw_Sg) → Option (tw_Sg)) =>
if v25 = 0 then (j29 a26)
else (tw_bd (tw_P_X12_isGood a26) (fun r36 =>
if r36 = 0 then (j29 a26)
else (tw_bd (tw_P_X12_readLeg n v5 v22 a26) (fun r37 =>
j29 r37)))))) (fun (j27 : (tw_Sg) → Option (tw_Sg)) =>
if v25 = 0 then (j27 a20.2)
else (tw_ck (tw_ok (v5 + (2 : Int32)) (tw_ln 445)) (
if ¬ (a20.2 445 (Int32.toNatClampNeg (v5 + (2 : Int32)))) = (8 : Int32) then (j27 a20.2)
else (tw_bd (tw_P_X12_report (-6 : Int32) v18 a20.2) (fun r38 =>
j27 r38))))))) (fun (j24 : (Int32) → Option (tw_Sg)) =>
if v22 = (-1 : Int32) then (j24 (0 : Int32))
else (j24 (1 : Int32))))) (fun (j21 : (Int32 × tw_Sg) → Option (tw_Sg)) =>
if r19.1 = 0 then (tw_bd (tw_P_X12_takeWord n 10 r19.2) (fun r39 =>
if r39.1 = 0 then (tw_bd (tw_P_X12_takeWord n 11 r39.2) (fun r40 =>
if r40.1 = 0 then (j21 ((-1 : Int32), r40.2))
else (j21 ((2 : Int32), r40.2))))
else (j21 ((1 : Int32), r39.2))))
else (j21 ((0 : Int32), r19.2)))))))) n (v11, r9.2))))
else (tw_bd (tw_P_X12_readStart n v5 r9.2) (fun r41 =>
k8 r41)))) n r6)))))
else (some a1))) (fun (j2 : (tw_Sg) → Option (tw_Sg)) =>
if ¬ (σ 445 (Int32.toNatClampNeg (3 : Int32))) = (4 : Int32) then (j2 σ)
else (tw_bd (tw_P_X12_report (-6 : Int32) x0 σ) (fun r42 =>
j2 r42))))
theorem tw_y_X12_readClue : tw_My yX12_readClue cX12_readClue 6 none 1 := ⟨List.mem_of_getElem? tw_w1459, List.mem_of_getElem? tw_w101, by decide +kernel, by decide +kernel, by decide +kernel⟩
theorem tw_v_X12_readClue : tw_Mv yX12_readClue "TreasureWalkModel" := ⟨List.mem_of_getElem? tw_w1458, List.mem_of_getElem? tw_w54, rfl⟩
set_option maxRecDepth 100000 in
set_option maxHeartbeats 4000000 in
theorem tw_m_X12_readClue {l : Launch} {B : Nat} {D : va_G} {C : Nat → ClassId} {S : Nat → Nat} {n : Nat} {x0 : Int32} {σ : tw_Sg}  {r : tw_Sg} (h : tw_P_X12_readClue n x0 σ = some r) : tw_Met l B D C S yX12_readClue cX12_readClue 6 none ({ frames := 9, cells := 0, slots := 0, locals := 189 } : Room) [.ref (B + 442), .int x0] σ (none) r := by
  refine tw_metOfP (tw_P_X12_readClue n x0 σ) r h (fun r => (none, r)) (by decide +kernel) (Nat.le_of_ble_eq_true rfl) ⟨rfl, rfl⟩ ?_
  intro z el eB eD eC eS hfr hlo hcs X hret hQ
  subst el eB eD eC eS
  have X : tw_X z cX12_readClue "TreasureWalkModel" 6 := X
  show tw_Rf z r _ σ 0 [(0, .ref (tw_zB z + 442)), (1, .int x0)] []
  unfold tw_P_X12_readClue
  refine r_aload_n X dX12_readClue_0 rfl 0 rfl ?_
  refine tw_g12_9 (k := 442) (v := .ref (tw_zB z + 445)) X dX12_readClue_1 _ tw_w1261 tw_kc442 rfl ?_
  refine r_iconst X dX12_readClue_4 (v := (3 : Int32)) (by decide) ?_
  refine r_iald (k := 445) X dX12_readClue_5 tw_kc445 ?_
  refine r_iconst X dX12_readClue_6 (v := (4 : Int32)) (by decide) ?_
  refine r_jn (α := tw_Sg) (σJ := fun a1 => a1) (pcJ := 17) (LJ := fun a1 => [(0, .ref (tw_zB z + 442))]) (stJ := fun a1 => []) (ok := fun a1 => True) (fun a1 hoka1 => ?_) (fun j2 hj2 => ?_)
  ·
    refine r_aload_n X dX12_readClue_17 rfl 0 rfl ?_
    refine r_bd (fun r3 hr3 => ?_)
    refine tw_c_X12_isGood X dX12_readClue_18 _ tw_w1371  hr3 (tw_le hfr rfl) (tw_le hlo rfl) hcs (Nat.le_of_ble_eq_true rfl) trivial ?_
    refine r_if_ne X dX12_readClue_21 (tgt := 25) (by decide) ?_ ?_
    ·
      refine r_aload_n X dX12_readClue_25 rfl 0 rfl ?_
      refine tw_g12_9 (k := 442) (v := .ref (tw_zB z + 445)) X dX12_readClue_26 _ tw_w1261 tw_kc442 rfl ?_
      refine r_iconst X dX12_readClue_29 (v := (3 : Int32)) (by decide) ?_
      refine r_iald (k := 445) X dX12_readClue_30 tw_kc445 ?_
      refine r_bd (fun r4 hr4 => ?_)
      refine tw_c_X12_clueAt X dX12_readClue_31 _ tw_w1460  hr4 (tw_le hfr rfl) (tw_le hlo rfl) hcs (Nat.le_of_ble_eq_true rfl) trivial ?_
      refine r_istore_n X dX12_readClue_34 rfl (by decide) (LL := fun v5 => [(2, .int v5), (0, .ref (tw_zB z + 442))]) (fun _ => rfl) (fun v5 => ?_)
      refine r_aload_n X dX12_readClue_35 rfl 1 rfl ?_
      refine r_iload_n X dX12_readClue_36 rfl 0 rfl ?_
      refine r_bd (fun r6 hr6 => ?_)
      refine tw_c_X12_readStart X dX12_readClue_37 _ tw_w1463  hr6 (tw_le hfr rfl) (tw_le hlo rfl) hcs (Nat.le_of_ble_eq_true rfl) trivial ?_
      refine r_lp (α := tw_Sg) (σJ := fun a7 => a7) (pcJ := 40) (LJ := fun a7 => [(2, .int v5), (0, .ref (tw_zB z + 442))]) (stJ := fun a7 => []) (fun k8 hk8 a7 => ?_) n r6
      refine r_aload_n X dX12_readClue_40 rfl 1 rfl ?_
      refine r_ldcS X dX12_readClue_41 (j := 8) tw_l_M_207 ?_
      refine r_bd (fun r9 hr9 => ?_)
      refine tw_c_X12_takeWord X dX12_readClue_43 _ tw_w1367 (by decide) hr9 (tw_le hfr rfl) (tw_le hlo rfl) hcs (Nat.le_of_ble_eq_true rfl) trivial ?_
      refine r_if_eq X dX12_readClue_46 (tgt := 57) (by decide) ?_ ?_
      ·
        refine r_aload_n X dX12_readClue_57 rfl 1 rfl ?_
        refine r_bd (fun r10 hr10 => ?_)
        refine tw_c_X12_isGood X dX12_readClue_58 _ tw_w1371  hr10 (tw_le hfr rfl) (tw_le hlo rfl) hcs (Nat.le_of_ble_eq_true rfl) trivial ?_
        refine r_istore_n X dX12_readClue_61 rfl (by decide) (LL := fun v11 => [(3, .int v11), (2, .int v5), (0, .ref (tw_zB z + 442))]) (fun _ => rfl) (fun v11 => ?_)
        refine r_lp (α := Int32 × tw_Sg) (σJ := fun a12 => a12.2) (pcJ := 62) (LJ := fun a12 => [(3, .int a12.1), (2, .int v5), (0, .ref (tw_zB z + 442))]) (stJ := fun a12 => []) (fun k13 hk13 a12 => ?_) n (v11, r9.2)
        refine r_iload_n X dX12_readClue_62 rfl 0 rfl ?_
        refine r_if_eq X dX12_readClue_63 (tgt := 194) (by decide) ?_ ?_
        ·
          refine r_aload_n X dX12_readClue_194 rfl 2 rfl ?_
          refine r_bd (fun r14 hr14 => ?_)
          refine tw_c_X12_isGood X dX12_readClue_195 _ tw_w1371  hr14 (tw_le hfr rfl) (tw_le hlo rfl) hcs (Nat.le_of_ble_eq_true rfl) trivial ?_
          refine r_if_ne X dX12_readClue_198 (tgt := 202) (by decide) ?_ ?_
          ·
            refine r_aload_n X dX12_readClue_202 rfl 2 rfl ?_
            refine tw_g12_9 (k := 442) (v := .ref (tw_zB z + 445)) X dX12_readClue_203 _ tw_w1261 tw_kc442 rfl ?_
            refine r_iload_n X dX12_readClue_206 rfl 1 rfl ?_
            refine r_iconst X dX12_readClue_207 (v := (0 : Int32)) (by decide) ?_
            refine r_iadd X dX12_readClue_208 ?_
            refine r_iconst X dX12_readClue_209 (v := (1 : Int32)) (by decide) ?_
            refine r_iast (k := 445) X dX12_readClue_210 tw_kc445 (fun σ15 => ?_)
            refine r_aload_n X dX12_readClue_211 rfl 2 rfl ?_
            refine tw_g12_9 (k := 442) (v := .ref (tw_zB z + 445)) X dX12_readClue_212 _ tw_w1261 tw_kc442 rfl ?_
            refine r_iconst X dX12_readClue_215 (v := (3 : Int32)) (by decide) ?_
            refine r_dup2 X dX12_readClue_216 rfl rfl ?_
            refine r_iald (k := 445) X dX12_readClue_217 tw_kc445 ?_
            refine r_iconst X dX12_readClue_218 (v := (1 : Int32)) (by decide) ?_
            refine r_iadd X dX12_readClue_219 ?_
            refine r_iast (k := 445) X dX12_readClue_220 tw_kc445 (fun σ16 => ?_)
            exact r_vret X dX12_readClue_221 hret hQ rfl
          ·
            exact r_vret X dX12_readClue_201 hret hQ rfl
        ·
          refine r_aload_n X dX12_readClue_66 rfl 2 rfl ?_
          refine r_bd (fun r17 hr17 => ?_)
          refine tw_c_X12_ahead X dX12_readClue_67 _ tw_w1375  hr17 (tw_le hfr rfl) (tw_le hlo rfl) hcs (Nat.le_of_ble_eq_true rfl) trivial ?_
          refine r_pop X dX12_readClue_70 rfl ?_
          refine r_aload_n X dX12_readClue_71 rfl 2 rfl ?_
          refine tw_g12_4 (k := 442) (v := .int (r17.2 442 4)) X dX12_readClue_72 _ tw_w1256 tw_kc442 rfl ?_
          refine r_istore X dX12_readClue_75 (by decide) (LL := fun v18 => [(4, .int v18), (3, .int a12.1), (2, .int v5), (0, .ref (tw_zB z + 442))]) (fun _ => rfl) (fun v18 => ?_)
          refine r_aload_n X dX12_readClue_77 rfl 3 rfl ?_
          refine r_ldcS X dX12_readClue_78 (j := 9) tw_l_M_209 ?_
          refine r_bd (fun r19 hr19 => ?_)
          refine tw_c_X12_takeWord X dX12_readClue_80 _ tw_w1367 (by decide) hr19 (tw_le hfr rfl) (tw_le hlo rfl) hcs (Nat.le_of_ble_eq_true rfl) trivial ?_
          refine r_jn (α := Int32 × tw_Sg) (σJ := fun a20 => a20.2) (pcJ := 117) (LJ := fun a20 => [(4, .int v18), (2, .int v5), (0, .ref (tw_zB z + 442))]) (stJ := fun a20 => [.int a20.1]) (ok := fun a20 => True) (fun a20 hoka20 => ?_) (fun j21 hj21 => ?_)
          ·
            refine r_istore X dX12_readClue_117 (by decide) (LL := fun v22 => [(5, .int v22), (4, .int v18), (2, .int v5), (0, .ref (tw_zB z + 442))]) (fun _ => rfl) (fun v22 => ?_)
            refine r_iload X dX12_readClue_119 0 rfl ?_
            refine r_iconst X dX12_readClue_121 (v := (-1 : Int32)) (by decide) ?_
            refine r_jn (α := Int32) (σJ := fun a23 => a20.2) (pcJ := 130) (LJ := fun a23 => [(5, .int v22), (4, .int v18), (2, .int v5), (0, .ref (tw_zB z + 442))]) (stJ := fun a23 => [.int a23]) (ok := fun a23 => True) (fun a23 hoka23 => ?_) (fun j24 hj24 => ?_)
            ·
              refine r_istore_n X dX12_readClue_130 rfl (by decide) (LL := fun v25 => [(3, .int v25), (5, .int v22), (4, .int v18), (2, .int v5), (0, .ref (tw_zB z + 442))]) (fun _ => rfl) (fun v25 => ?_)
              refine r_iload_n X dX12_readClue_131 rfl 0 rfl ?_
              refine r_jn (α := tw_Sg) (σJ := fun a26 => a26) (pcJ := 156) (LJ := fun a26 => [(3, .int v25), (5, .int v22), (2, .int v5), (0, .ref (tw_zB z + 442))]) (stJ := fun a26 => []) (ok := fun a26 => True) (fun a26 hoka26 => ?_) (fun j27 hj27 => ?_)
              ·
                refine r_iload_n X dX12_readClue_156 rfl 0 rfl ?_
                refine r_jn (α := tw_Sg) (σJ := fun a28 => a28) (pcJ := 174) (LJ := fun a28 => [(3, .int v25), (2, .int v5), (0, .ref (tw_zB z + 442))]) (stJ := fun a28 => []) (ok := fun a28 => True) (fun a28 hoka28 => ?_) (fun j29 hj29 => ?_)
                ·
                  refine r_iload_n X dX12_readClue_174 rfl 0 rfl ?_
                  refine r_jn (α := Int32) (σJ := fun a30 => a28) (pcJ := 190) (LJ := fun a30 => [(2, .int v5), (0, .ref (tw_zB z + 442))]) (stJ := fun a30 => [.int a30]) (ok := fun a30 => True) (fun a30 hoka30 => ?_) (fun j31 hj31 => ?_)
                  ·
                    refine r_istore_n X dX12_readClue_190 rfl (by decide) (LL := fun v32 => [(3, .int v32), (2, .int v5), (0, .ref (tw_zB z + 442))]) (fun _ => rfl) (fun v32 => ?_)
                    refine r_goto X dX12_readClue_191 (tgt := 62) (by decide) ?_
                    exact hk13 (v32, a28)
                  refine r_jn (α := Unit) (σJ := fun a33 => a28) (pcJ := 189) (LJ := fun a33 => [(2, .int v5), (0, .ref (tw_zB z + 442))]) (stJ := fun a33 => []) (ok := fun a33 => True) (fun a33 hoka33 => ?_) (fun j34 hj34 => ?_)
                  ·
                    refine r_iconst X dX12_readClue_189 (v := (0 : Int32)) (by decide) ?_
                    exact hj31 (0 : Int32) trivial
                  refine r_if_eq X dX12_readClue_175 (tgt := 189) (by decide) ?_ ?_
                  ·
                    exact tw_Rf.sub [1, 2] rfl (hj34 () trivial)
                  ·
                    refine r_aload_n X dX12_readClue_178 rfl 2 rfl ?_
                    refine r_bd (fun r35 hr35 => ?_)
                    refine tw_c_X12_isGood X dX12_readClue_179 _ tw_w1371  hr35 (tw_le hfr rfl) (tw_le hlo rfl) hcs (Nat.le_of_ble_eq_true rfl) trivial ?_
                    refine r_if_eq X dX12_readClue_182 (tgt := 189) (by decide) ?_ ?_
                    ·
                      exact tw_Rf.sub [1, 2] rfl (hj34 () trivial)
                    ·
                      refine r_iconst X dX12_readClue_185 (v := (1 : Int32)) (by decide) ?_
                      refine r_goto X dX12_readClue_186 (tgt := 190) (by decide) ?_
                      exact tw_Rf.sub [1, 2] rfl (hj31 (1 : Int32) trivial)
                refine r_if_eq X dX12_readClue_157 (tgt := 174) (by decide) ?_ ?_
                ·
                  exact tw_Rf.sub [0, 2, 3] rfl (hj29 a26 trivial)
                ·
                  refine r_aload_n X dX12_readClue_160 rfl 3 rfl ?_
                  refine r_bd (fun r36 hr36 => ?_)
                  refine tw_c_X12_isGood X dX12_readClue_161 _ tw_w1371  hr36 (tw_le hfr rfl) (tw_le hlo rfl) hcs (Nat.le_of_ble_eq_true rfl) trivial ?_
                  refine r_if_eq X dX12_readClue_164 (tgt := 174) (by decide) ?_ ?_
                  ·
                    exact tw_Rf.sub [0, 2, 3] rfl (hj29 a26 trivial)
                  ·
                    refine r_aload_n X dX12_readClue_167 rfl 3 rfl ?_
                    refine r_iload_n X dX12_readClue_168 rfl 2 rfl ?_
                    refine r_iload X dX12_readClue_169 1 rfl ?_
                    refine r_bd (fun r37 hr37 => ?_)
                    refine tw_c_X12_readLeg X dX12_readClue_171 _ tw_w1475  hr37 (tw_le hfr rfl) (tw_le hlo rfl) hcs (Nat.le_of_ble_eq_true rfl) trivial ?_
                    exact tw_Rf.sub [0, 2, 3] rfl (hj29 r37 trivial)
              refine r_if_eq X dX12_readClue_132 (tgt := 156) (by decide) ?_ ?_
              ·
                exact tw_Rf.sub [0, 1, 3, 4] rfl (hj27 a20.2 trivial)
              ·
                refine r_aload_n X dX12_readClue_135 rfl 4 rfl ?_
                refine tw_g12_9 (k := 442) (v := .ref (tw_zB z + 445)) X dX12_readClue_136 _ tw_w1261 tw_kc442 rfl ?_
                refine r_iload_n X dX12_readClue_139 rfl 3 rfl ?_
                refine r_iconst X dX12_readClue_140 (v := (2 : Int32)) (by decide) ?_
                refine r_iadd X dX12_readClue_141 ?_
                refine r_iald (k := 445) X dX12_readClue_142 tw_kc445 ?_
                refine r_bipush X dX12_readClue_143 (v := (8 : Int32)) (by decide) ?_
                refine r_icmp_ne X dX12_readClue_145 (tgt := 156) (by decide) ?_ ?_
                ·
                  exact tw_Rf.sub [0, 1, 3, 4] rfl (hj27 a20.2 trivial)
                ·
                  refine r_aload_n X dX12_readClue_148 rfl 4 rfl ?_
                  refine r_bipush X dX12_readClue_149 (v := (-6 : Int32)) (by decide) ?_
                  refine r_iload X dX12_readClue_151 2 rfl ?_
                  refine r_bd (fun r38 hr38 => ?_)
                  refine tw_c_X12_report X dX12_readClue_153 _ tw_w1385  hr38 (tw_le hfr rfl) (tw_le hlo rfl) hcs (Nat.le_of_ble_eq_true rfl) trivial ?_
                  exact tw_Rf.sub [0, 1, 3, 4] rfl (hj27 r38 trivial)
            refine r_icmp_eq X dX12_readClue_122 (tgt := 129) (by decide) ?_ ?_
            ·
              refine r_iconst X dX12_readClue_129 (v := (0 : Int32)) (by decide) ?_
              exact hj24 (0 : Int32) trivial
            ·
              refine r_iconst X dX12_readClue_125 (v := (1 : Int32)) (by decide) ?_
              refine r_goto X dX12_readClue_126 (tgt := 130) (by decide) ?_
              exact hj24 (1 : Int32) trivial
          refine r_if_eq X dX12_readClue_83 (tgt := 90) (by decide) ?_ ?_
          ·
            refine r_aload_n X dX12_readClue_90 rfl 3 rfl ?_
            refine r_ldcS X dX12_readClue_91 (j := 10) tw_l_M_211 ?_
            refine r_bd (fun r39 hr39 => ?_)
            refine tw_c_X12_takeWord X dX12_readClue_93 _ tw_w1367 (by decide) hr39 (tw_le hfr rfl) (tw_le hlo rfl) hcs (Nat.le_of_ble_eq_true rfl) trivial ?_
            refine r_if_eq X dX12_readClue_96 (tgt := 103) (by decide) ?_ ?_
            ·
              refine r_aload_n X dX12_readClue_103 rfl 3 rfl ?_
              refine r_ldcS X dX12_readClue_104 (j := 11) tw_l_M_213 ?_
              refine r_bd (fun r40 hr40 => ?_)
              refine tw_c_X12_takeWord X dX12_readClue_106 _ tw_w1367 (by decide) hr40 (tw_le hfr rfl) (tw_le hlo rfl) hcs (Nat.le_of_ble_eq_true rfl) trivial ?_
              refine r_if_eq X dX12_readClue_109 (tgt := 116) (by decide) ?_ ?_
              ·
                refine r_iconst X dX12_readClue_116 (v := (-1 : Int32)) (by decide) ?_
                exact tw_Rf.sub [0, 2, 3] rfl (hj21 ((-1 : Int32), r40.2) trivial)
              ·
                refine r_iconst X dX12_readClue_112 (v := (2 : Int32)) (by decide) ?_
                refine r_goto X dX12_readClue_113 (tgt := 117) (by decide) ?_
                exact tw_Rf.sub [0, 2, 3] rfl (hj21 ((2 : Int32), r40.2) trivial)
            ·
              refine r_iconst X dX12_readClue_99 (v := (1 : Int32)) (by decide) ?_
              refine r_goto X dX12_readClue_100 (tgt := 117) (by decide) ?_
              exact tw_Rf.sub [0, 2, 3] rfl (hj21 ((1 : Int32), r39.2) trivial)
          ·
            refine r_iconst X dX12_readClue_86 (v := (0 : Int32)) (by decide) ?_
            refine r_goto X dX12_readClue_87 (tgt := 117) (by decide) ?_
            exact tw_Rf.sub [0, 2, 3] rfl (hj21 ((0 : Int32), r19.2) trivial)
      ·
        refine r_aload_n X dX12_readClue_49 rfl 1 rfl ?_
        refine r_iload_n X dX12_readClue_50 rfl 0 rfl ?_
        refine r_bd (fun r41 hr41 => ?_)
        refine tw_c_X12_readStart X dX12_readClue_51 _ tw_w1463  hr41 (tw_le hfr rfl) (tw_le hlo rfl) hcs (Nat.le_of_ble_eq_true rfl) trivial ?_
        refine r_goto X dX12_readClue_54 (tgt := 40) (by decide) ?_
        exact hk8 r41
    ·
      exact r_vret X dX12_readClue_24 hret hQ rfl
  refine r_icmp_ne X dX12_readClue_7 (tgt := 17) (by decide) ?_ ?_
  ·
    exact tw_Rf.sub [0] rfl (hj2 σ trivial)
  ·
    refine r_aload_n X dX12_readClue_10 rfl 0 rfl ?_
    refine r_bipush X dX12_readClue_11 (v := (-6 : Int32)) (by decide) ?_
    refine r_iload_n X dX12_readClue_13 rfl 1 rfl ?_
    refine r_bd (fun r42 hr42 => ?_)
    refine tw_c_X12_report X dX12_readClue_14 _ tw_w1385  hr42 (tw_le hfr rfl) (tw_le hlo rfl) hcs (Nat.le_of_ble_eq_true rfl) trivial ?_
    exact tw_Rf.sub [0] rfl (hj2 r42 trivial)
theorem tw_c_X12_readClue {ρ : Type} {z : tw_Z} {cc : ByteArray} {own : String} {nL pc : Nat} {σ : tw_Sg} {L : List (Nat × Value)} {st : List Value} {ix : Nat} {n : Nat} {x0 : Int32} (X : tw_X z cc own nL) (d : decode cc pc = .ok (.invokevirtual ix, 3)) (i : Nat) (hi : lw_tbl[i]? = some (.methodLink own ix yX12_readClue))  {res : ρ} {E : Option ρ} {r : tw_Sg} (h : tw_P_X12_readClue n x0 σ = some r) (h1 : 10 ≤ (tw_zR z).frames) (h2 : 214 ≤ (tw_zR z).locals) (hcs : tw_zcells z ≤ (tw_zR z).cells ∧ tw_zslots z ≤ (tw_zR z).slots) (hst : (st.map fun v => v.category).sum ≤ 8) (_ : True) (kk : tw_Rf z res E r (pc + 3) L (st)) : tw_Rf z res E σ pc L (.int x0 :: .ref (tw_zB z + 442) :: st) := r_callV (As := [.int x0]) X d (tw_m_X12_readClue  h) tw_y_X12_readClue tw_v_X12_readClue i hi rfl (tw_kd_lt tw_kc442 (by decide)) (tw_E12 tw_kc442) rfl ⟨rfl, rfl, h1, h2⟩ hcs hst rfl kk
def tw_P_X12_readTeam (n : Nat) (x0 : Int32) (σ : tw_Sg) : Option (tw_Sg) :=
tw_jn (fun (a1 : tw_Sg) =>
tw_bd (tw_P_X12_readLand n a1) (fun r3 =>
tw_lt r3.1 (fun (v4 : Int32) =>
tw_bd (tw_P_X12_isGood r3.2) (fun r5 =>
tw_jn (fun (a6 : tw_Sg) =>
some a6) (fun (j7 : (tw_Sg) → Option (tw_Sg)) =>
if r5 = 0 then (j7 r3.2)
else (tw_lt (tw_up r3.2 442 13 v4) (fun (σ8 : tw_Sg) =>
j7 σ8))))))) (fun (j2 : (tw_Sg) → Option (tw_Sg)) =>
if (σ 442 13) = (-1 : Int32) then (j2 σ)
else (tw_bd (tw_P_X12_report (-2 : Int32) x0 σ) (fun r9 =>
j2 r9)))
theorem tw_y_X12_readTeam : tw_My yX12_readTeam cX12_readTeam 3 none 1 := ⟨List.mem_of_getElem? tw_w1454, List.mem_of_getElem? tw_w101, by decide +kernel, by decide +kernel, by decide +kernel⟩
theorem tw_v_X12_readTeam : tw_Mv yX12_readTeam "TreasureWalkModel" := ⟨List.mem_of_getElem? tw_w1453, List.mem_of_getElem? tw_w53, rfl⟩
set_option maxRecDepth 100000 in
set_option maxHeartbeats 4000000 in
theorem tw_m_X12_readTeam {l : Launch} {B : Nat} {D : va_G} {C : Nat → ClassId} {S : Nat → Nat} {n : Nat} {x0 : Int32} {σ : tw_Sg}  {r : tw_Sg} (h : tw_P_X12_readTeam n x0 σ = some r) : tw_Met l B D C S yX12_readTeam cX12_readTeam 3 none ({ frames := 4, cells := 0, slots := 0, locals := 89 } : Room) [.ref (B + 442), .int x0] σ (none) r := by
  refine tw_metOfP (tw_P_X12_readTeam n x0 σ) r h (fun r => (none, r)) (by decide +kernel) (Nat.le_of_ble_eq_true rfl) ⟨rfl, rfl⟩ ?_
  intro z el eB eD eC eS hfr hlo hcs X hret hQ
  subst el eB eD eC eS
  have X : tw_X z cX12_readTeam "TreasureWalkModel" 3 := X
  show tw_Rf z r _ σ 0 [(0, .ref (tw_zB z + 442)), (1, .int x0)] []
  unfold tw_P_X12_readTeam
  refine r_aload_n X dX12_readTeam_0 rfl 0 rfl ?_
  refine tw_g12_13 (k := 442) (v := .int (σ 442 13)) X dX12_readTeam_1 _ tw_w1265 tw_kc442 rfl ?_
  refine r_iconst X dX12_readTeam_4 (v := (-1 : Int32)) (by decide) ?_
  refine r_jn (α := tw_Sg) (σJ := fun a1 => a1) (pcJ := 15) (LJ := fun a1 => [(0, .ref (tw_zB z + 442))]) (stJ := fun a1 => []) (ok := fun a1 => True) (fun a1 hoka1 => ?_) (fun j2 hj2 => ?_)
  ·
    refine r_aload_n X dX12_readTeam_15 rfl 0 rfl ?_
    refine r_bd (fun r3 hr3 => ?_)
    refine tw_c_X12_readLand X dX12_readTeam_16 _ tw_w1446  hr3 (tw_le hfr rfl) (tw_le hlo rfl) hcs (Nat.le_of_ble_eq_true rfl) trivial ?_
    refine r_istore_n X dX12_readTeam_19 rfl (by decide) (LL := fun v4 => [(2, .int v4), (0, .ref (tw_zB z + 442))]) (fun _ => rfl) (fun v4 => ?_)
    refine r_aload_n X dX12_readTeam_20 rfl 1 rfl ?_
    refine r_bd (fun r5 hr5 => ?_)
    refine tw_c_X12_isGood X dX12_readTeam_21 _ tw_w1371  hr5 (tw_le hfr rfl) (tw_le hlo rfl) hcs (Nat.le_of_ble_eq_true rfl) trivial ?_
    refine r_jn (α := tw_Sg) (σJ := fun a6 => a6) (pcJ := 32) (LJ := fun a6 => []) (stJ := fun a6 => []) (ok := fun a6 => True) (fun a6 hoka6 => ?_) (fun j7 hj7 => ?_)
    ·
      exact r_vret X dX12_readTeam_32 hret hQ rfl
    refine r_if_eq X dX12_readTeam_24 (tgt := 32) (by decide) ?_ ?_
    ·
      exact tw_Rf.sub [] rfl (hj7 r3.2 trivial)
    ·
      refine r_aload_n X dX12_readTeam_27 rfl 1 rfl ?_
      refine r_iload_n X dX12_readTeam_28 rfl 0 rfl ?_
      refine tw_s12_13 (k := 442) X dX12_readTeam_29 _ tw_w1265 tw_kc442 (fun σ8 => ?_)
      exact tw_Rf.sub [] rfl (hj7 σ8 trivial)
  refine r_icmp_eq X dX12_readTeam_5 (tgt := 15) (by decide) ?_ ?_
  ·
    exact tw_Rf.sub [0] rfl (hj2 σ trivial)
  ·
    refine r_aload_n X dX12_readTeam_8 rfl 0 rfl ?_
    refine r_bipush X dX12_readTeam_9 (v := (-2 : Int32)) (by decide) ?_
    refine r_iload_n X dX12_readTeam_11 rfl 1 rfl ?_
    refine r_bd (fun r9 hr9 => ?_)
    refine tw_c_X12_report X dX12_readTeam_12 _ tw_w1385  hr9 (tw_le hfr rfl) (tw_le hlo rfl) hcs (Nat.le_of_ble_eq_true rfl) trivial ?_
    exact tw_Rf.sub [0] rfl (hj2 r9 trivial)
theorem tw_c_X12_readTeam {ρ : Type} {z : tw_Z} {cc : ByteArray} {own : String} {nL pc : Nat} {σ : tw_Sg} {L : List (Nat × Value)} {st : List Value} {ix : Nat} {n : Nat} {x0 : Int32} (X : tw_X z cc own nL) (d : decode cc pc = .ok (.invokevirtual ix, 3)) (i : Nat) (hi : lw_tbl[i]? = some (.methodLink own ix yX12_readTeam))  {res : ρ} {E : Option ρ} {r : tw_Sg} (h : tw_P_X12_readTeam n x0 σ = some r) (h1 : 5 ≤ (tw_zR z).frames) (h2 : 111 ≤ (tw_zR z).locals) (hcs : tw_zcells z ≤ (tw_zR z).cells ∧ tw_zslots z ≤ (tw_zR z).slots) (hst : (st.map fun v => v.category).sum ≤ 8) (_ : True) (kk : tw_Rf z res E r (pc + 3) L (st)) : tw_Rf z res E σ pc L (.int x0 :: .ref (tw_zB z + 442) :: st) := r_callV (As := [.int x0]) X d (tw_m_X12_readTeam  h) tw_y_X12_readTeam tw_v_X12_readTeam i hi rfl (tw_kd_lt tw_kc442 (by decide)) (tw_E12 tw_kc442) rfl ⟨rfl, rfl, h1, h2⟩ hcs hst rfl kk
def tw_P_X12_statement (n : Nat)  (σ : tw_Sg) : Option (tw_Sg) :=
tw_bd (tw_P_X12_ahead n σ) (fun r1 =>
tw_lt (r1.2 442 4) (fun (v2 : Int32) =>
tw_bd (tw_P_X12_takeWord n 0 r1.2) (fun r3 =>
tw_jn (fun (a4 : tw_Sg) =>
tw_bd (tw_P_X12_expect n (59 : Int32) a4) (fun r6 =>
some r6)) (fun (j5 : (tw_Sg) → Option (tw_Sg)) =>
if r3.1 = 0 then (tw_bd (tw_P_X12_takeWord n 1 r3.2) (fun r7 =>
if r7.1 = 0 then (tw_bd (tw_P_X12_takeWord n 2 r7.2) (fun r8 =>
if r8.1 = 0 then (tw_bd (tw_P_X12_takeWord n 3 r8.2) (fun r9 =>
if r9.1 = 0 then (tw_bd (tw_P_X12_takeWord n 4 r9.2) (fun r10 =>
if r10.1 = 0 then (tw_bd (tw_P_X12_report (-2 : Int32) v2 r10.2) (fun r11 =>
j5 r11))
else (tw_bd (tw_P_X12_readClue n v2 r10.2) (fun r12 =>
j5 r12))))
else (tw_bd (tw_P_X12_readTeam n v2 r9.2) (fun r13 =>
j5 r13))))
else (tw_bd (tw_P_X12_readMark n r8.2) (fun r14 =>
j5 r14))))
else (tw_bd (tw_P_X12_readBend n v2 r7.2) (fun r15 =>
j5 r15))))
else (tw_bd (tw_P_X12_readWater n r3.2) (fun r16 =>
j5 r16))))))
theorem tw_y_X12_statement : tw_My yX12_statement cX12_statement 2 none 0 := ⟨List.mem_of_getElem? tw_w1410, List.mem_of_getElem? tw_w101, by decide +kernel, by decide +kernel, by decide +kernel⟩
theorem tw_v_X12_statement : tw_Mv yX12_statement "TreasureWalkModel" := ⟨List.mem_of_getElem? tw_w1409, List.mem_of_getElem? tw_w45, rfl⟩
set_option maxRecDepth 100000 in
set_option maxHeartbeats 4000000 in
theorem tw_m_X12_statement {l : Launch} {B : Nat} {D : va_G} {C : Nat → ClassId} {S : Nat → Nat} {n : Nat}  {σ : tw_Sg}  {r : tw_Sg} (h : tw_P_X12_statement n σ = some r) : tw_Met l B D C S yX12_statement cX12_statement 2 none ({ frames := 10, cells := 0, slots := 0, locals := 214 } : Room) [.ref (B + 442)] σ (none) r := by
  refine tw_metOfP (tw_P_X12_statement n σ) r h (fun r => (none, r)) (by decide +kernel) (Nat.le_of_ble_eq_true rfl) ⟨rfl, rfl⟩ ?_
  intro z el eB eD eC eS hfr hlo hcs X hret hQ
  subst el eB eD eC eS
  have X : tw_X z cX12_statement "TreasureWalkModel" 2 := X
  show tw_Rf z r _ σ 0 [(0, .ref (tw_zB z + 442))] []
  unfold tw_P_X12_statement
  refine r_aload_n X dX12_statement_0 rfl 0 rfl ?_
  refine r_bd (fun r1 hr1 => ?_)
  refine tw_c_X12_ahead X dX12_statement_1 _ tw_w1375  hr1 (tw_le hfr rfl) (tw_le hlo rfl) hcs (Nat.le_of_ble_eq_true rfl) trivial ?_
  refine r_pop X dX12_statement_4 rfl ?_
  refine r_aload_n X dX12_statement_5 rfl 0 rfl ?_
  refine tw_g12_4 (k := 442) (v := .int (r1.2 442 4)) X dX12_statement_6 _ tw_w1256 tw_kc442 rfl ?_
  refine r_istore_n X dX12_statement_9 rfl (by decide) (LL := fun v2 => [(1, .int v2), (0, .ref (tw_zB z + 442))]) (fun _ => rfl) (fun v2 => ?_)
  refine r_aload_n X dX12_statement_10 rfl 1 rfl ?_
  refine r_ldcS X dX12_statement_11 (j := 0) tw_l_M_218 ?_
  refine r_bd (fun r3 hr3 => ?_)
  refine tw_c_X12_takeWord X dX12_statement_13 _ tw_w1367 (by decide) hr3 (tw_le hfr rfl) (tw_le hlo rfl) hcs (Nat.le_of_ble_eq_true rfl) trivial ?_
  refine r_jn (α := tw_Sg) (σJ := fun a4 => a4) (pcJ := 100) (LJ := fun a4 => [(0, .ref (tw_zB z + 442))]) (stJ := fun a4 => []) (ok := fun a4 => True) (fun a4 hoka4 => ?_) (fun j5 hj5 => ?_)
  ·
    refine r_aload_n X dX12_statement_100 rfl 0 rfl ?_
    refine r_bipush X dX12_statement_101 (v := (59 : Int32)) (by decide) ?_
    refine r_bd (fun r6 hr6 => ?_)
    refine tw_c_X12_expect X dX12_statement_103 _ tw_w1403  hr6 (tw_le hfr rfl) (tw_le hlo rfl) hcs (Nat.le_of_ble_eq_true rfl) trivial ?_
    exact r_vret X dX12_statement_106 hret hQ rfl
  refine r_if_eq X dX12_statement_16 (tgt := 26) (by decide) ?_ ?_
  ·
    refine r_aload_n X dX12_statement_26 rfl 1 rfl ?_
    refine r_ldcS X dX12_statement_27 (j := 1) tw_l_M_223 ?_
    refine r_bd (fun r7 hr7 => ?_)
    refine tw_c_X12_takeWord X dX12_statement_29 _ tw_w1367 (by decide) hr7 (tw_le hfr rfl) (tw_le hlo rfl) hcs (Nat.le_of_ble_eq_true rfl) trivial ?_
    refine r_if_eq X dX12_statement_32 (tgt := 43) (by decide) ?_ ?_
    ·
      refine r_aload_n X dX12_statement_43 rfl 1 rfl ?_
      refine r_ldcS X dX12_statement_44 (j := 2) tw_l_M_228 ?_
      refine r_bd (fun r8 hr8 => ?_)
      refine tw_c_X12_takeWord X dX12_statement_46 _ tw_w1367 (by decide) hr8 (tw_le hfr rfl) (tw_le hlo rfl) hcs (Nat.le_of_ble_eq_true rfl) trivial ?_
      refine r_if_eq X dX12_statement_49 (tgt := 59) (by decide) ?_ ?_
      ·
        refine r_aload_n X dX12_statement_59 rfl 1 rfl ?_
        refine r_ldcS X dX12_statement_60 (j := 3) tw_l_M_233 ?_
        refine r_bd (fun r9 hr9 => ?_)
        refine tw_c_X12_takeWord X dX12_statement_62 _ tw_w1367 (by decide) hr9 (tw_le hfr rfl) (tw_le hlo rfl) hcs (Nat.le_of_ble_eq_true rfl) trivial ?_
        refine r_if_eq X dX12_statement_65 (tgt := 76) (by decide) ?_ ?_
        ·
          refine r_aload_n X dX12_statement_76 rfl 1 rfl ?_
          refine r_ldcS X dX12_statement_77 (j := 4) tw_l_M_238 ?_
          refine r_bd (fun r10 hr10 => ?_)
          refine tw_c_X12_takeWord X dX12_statement_79 _ tw_w1367 (by decide) hr10 (tw_le hfr rfl) (tw_le hlo rfl) hcs (Nat.le_of_ble_eq_true rfl) trivial ?_
          refine r_if_eq X dX12_statement_82 (tgt := 93) (by decide) ?_ ?_
          ·
            refine r_aload_n X dX12_statement_93 rfl 1 rfl ?_
            refine r_bipush X dX12_statement_94 (v := (-2 : Int32)) (by decide) ?_
            refine r_iload_n X dX12_statement_96 rfl 0 rfl ?_
            refine r_bd (fun r11 hr11 => ?_)
            refine tw_c_X12_report X dX12_statement_97 _ tw_w1385  hr11 (tw_le hfr rfl) (tw_le hlo rfl) hcs (Nat.le_of_ble_eq_true rfl) trivial ?_
            exact tw_Rf.sub [1] rfl (hj5 r11 trivial)
          ·
            refine r_aload_n X dX12_statement_85 rfl 1 rfl ?_
            refine r_iload_n X dX12_statement_86 rfl 0 rfl ?_
            refine r_bd (fun r12 hr12 => ?_)
            refine tw_c_X12_readClue X dX12_statement_87 _ tw_w1456  hr12 (tw_le hfr rfl) (tw_le hlo rfl) hcs (Nat.le_of_ble_eq_true rfl) trivial ?_
            refine r_goto X dX12_statement_90 (tgt := 100) (by decide) ?_
            exact tw_Rf.sub [1] rfl (hj5 r12 trivial)
        ·
          refine r_aload_n X dX12_statement_68 rfl 1 rfl ?_
          refine r_iload_n X dX12_statement_69 rfl 0 rfl ?_
          refine r_bd (fun r13 hr13 => ?_)
          refine tw_c_X12_readTeam X dX12_statement_70 _ tw_w1451  hr13 (tw_le hfr rfl) (tw_le hlo rfl) hcs (Nat.le_of_ble_eq_true rfl) trivial ?_
          refine r_goto X dX12_statement_73 (tgt := 100) (by decide) ?_
          exact tw_Rf.sub [1] rfl (hj5 r13 trivial)
      ·
        refine r_aload_n X dX12_statement_52 rfl 1 rfl ?_
        refine r_bd (fun r14 hr14 => ?_)
        refine tw_c_X12_readMark X dX12_statement_53 _ tw_w1438  hr14 (tw_le hfr rfl) (tw_le hlo rfl) hcs (Nat.le_of_ble_eq_true rfl) trivial ?_
        refine r_goto X dX12_statement_56 (tgt := 100) (by decide) ?_
        exact tw_Rf.sub [1] rfl (hj5 r14 trivial)
    ·
      refine r_aload_n X dX12_statement_35 rfl 1 rfl ?_
      refine r_iload_n X dX12_statement_36 rfl 0 rfl ?_
      refine r_bd (fun r15 hr15 => ?_)
      refine tw_c_X12_readBend X dX12_statement_37 _ tw_w1428  hr15 (tw_le hfr rfl) (tw_le hlo rfl) hcs (Nat.le_of_ble_eq_true rfl) trivial ?_
      refine r_goto X dX12_statement_40 (tgt := 100) (by decide) ?_
      exact tw_Rf.sub [1] rfl (hj5 r15 trivial)
  ·
    refine r_aload_n X dX12_statement_19 rfl 1 rfl ?_
    refine r_bd (fun r16 hr16 => ?_)
    refine tw_c_X12_readWater X dX12_statement_20 _ tw_w1412  hr16 (tw_le hfr rfl) (tw_le hlo rfl) hcs (Nat.le_of_ble_eq_true rfl) trivial ?_
    refine r_goto X dX12_statement_23 (tgt := 100) (by decide) ?_
    exact tw_Rf.sub [1] rfl (hj5 r16 trivial)
theorem tw_c_X12_statement {ρ : Type} {z : tw_Z} {cc : ByteArray} {own : String} {nL pc : Nat} {σ : tw_Sg} {L : List (Nat × Value)} {st : List Value} {ix : Nat} {n : Nat}  (X : tw_X z cc own nL) (d : decode cc pc = .ok (.invokevirtual ix, 3)) (i : Nat) (hi : lw_tbl[i]? = some (.methodLink own ix yX12_statement))  {res : ρ} {E : Option ρ} {r : tw_Sg} (h : tw_P_X12_statement n σ = some r) (h1 : 11 ≤ (tw_zR z).frames) (h2 : 235 ≤ (tw_zR z).locals) (hcs : tw_zcells z ≤ (tw_zR z).cells ∧ tw_zslots z ≤ (tw_zR z).slots) (hst : (st.map fun v => v.category).sum ≤ 8) (_ : True) (kk : tw_Rf z res E r (pc + 3) L (st)) : tw_Rf z res E σ pc L (.ref (tw_zB z + 442) :: st) := r_callV (As := []) X d (tw_m_X12_statement  h) tw_y_X12_statement tw_v_X12_statement i hi rfl (tw_kd_lt tw_kc442 (by decide)) (tw_E12 tw_kc442) rfl ⟨rfl, rfl, h1, h2⟩ hcs hst rfl kk
