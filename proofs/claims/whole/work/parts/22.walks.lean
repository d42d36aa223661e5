def tw_P_X12_used (n : Nat)  (σ : tw_Sg) : Option (Int32) :=
tw_lt (0 : Int32) (fun (v1 : Int32) =>
tw_lt (0 : Int32) (fun (v2 : Int32) =>
tw_lp (fun (k4 : (Int32 × Int32) → Option (Int32)) (a3 : Int32 × Int32) =>
tw_ck (tw_ok (3 : Int32) (tw_ln 444)) (
if (σ 444 (Int32.toNatClampNeg (3 : Int32))) ≤ a3.2 then (some a3.1)
else (tw_bd (tw_P_X12_clueAt a3.2 σ) (fun r5 =>
tw_ck (tw_ok (r5 + (0 : Int32)) (tw_ln 444)) (
tw_lt (a3.1 + (σ 444 (Int32.toNatClampNeg (r5 + (0 : Int32))))) (fun (v6 : Int32) =>
tw_lt (a3.2 + (1 : Int32)) (fun (v7 : Int32) =>
k4 (v6, v7)))))))) n (v1, v2)))
theorem tw_y_X12_used : tw_My yX12_used cX12_used 3 (some .int) 0 := ⟨List.mem_of_getElem? tw_w1518, List.mem_of_getElem? tw_w101, by decide +kernel, by decide +kernel, by decide +kernel⟩
theorem tw_v_X12_used : tw_Mv yX12_used "TreasureWalkModel" := ⟨List.mem_of_getElem? tw_w1517, List.mem_of_getElem? tw_w62, rfl⟩
set_option maxRecDepth 100000 in
set_option maxHeartbeats 4000000 in
theorem tw_m_X12_used {l : Launch} {B : Nat} {D : va_G} {C : Nat → ClassId} {S : Nat → Nat} {n : Nat}  {σ : tw_Sg}  {r : Int32} (h : tw_P_X12_used n σ = some r) : tw_Met l B D C S yX12_used cX12_used 3 (some .int) ({ frames := 1, cells := 0, slots := 0, locals := 20 } : Room) [.ref (B + 442)] σ (some (.int r)) σ := by
  refine tw_metOfP (tw_P_X12_used n σ) r h (fun r => (some (.int r), σ)) (by decide +kernel) (Nat.le_of_ble_eq_true rfl) ⟨rfl, rfl⟩ ?_
  intro z el eB eD eC eS hfr hlo hcs X hret hQ
  subst el eB eD eC eS
  have X : tw_X z cX12_used "TreasureWalkModel" 3 := X
  show tw_Rf z r _ σ 0 [(0, .ref (tw_zB z + 442))] []
  unfold tw_P_X12_used
  refine r_iconst X dX12_used_0 (v := (0 : Int32)) (by decide) ?_
  refine r_istore_n X dX12_used_1 rfl (by decide) (LL := fun v1 => [(1, .int v1), (0, .ref (tw_zB z + 442))]) (fun _ => rfl) (fun v1 => ?_)
  refine r_iconst X dX12_used_2 (v := (0 : Int32)) (by decide) ?_
  refine r_istore_n X dX12_used_3 rfl (by decide) (LL := fun v2 => [(2, .int v2), (1, .int v1), (0, .ref (tw_zB z + 442))]) (fun _ => rfl) (fun v2 => ?_)
  refine r_lp (α := Int32 × Int32) (σJ := fun a3 => σ) (pcJ := 4) (LJ := fun a3 => [(2, .int a3.2), (1, .int a3.1), (0, .ref (tw_zB z + 442))]) (stJ := fun a3 => []) (fun k4 hk4 a3 => ?_) n (v1, v2)
  refine r_iload_n X dX12_used_4 rfl 0 rfl ?_
  refine r_aload_n X dX12_used_5 rfl 2 rfl ?_
  refine tw_g12_8 (k := 442) (v := .ref (tw_zB z + 444)) X dX12_used_6 _ tw_w1260 tw_kc442 rfl ?_
  refine r_iconst X dX12_used_9 (v := (3 : Int32)) (by decide) ?_
  refine r_iald (k := 444) X dX12_used_10 tw_kc444 ?_
  refine r_icmp_ge X dX12_used_11 (tgt := 34) (by decide) ?_ ?_
  ·
    refine r_iload_n X dX12_used_34 rfl 1 rfl ?_
    exact r_iret X dX12_used_35 hret hQ rfl
  ·
    refine r_iload_n X dX12_used_14 rfl 1 rfl ?_
    refine r_aload_n X dX12_used_15 rfl 2 rfl ?_
    refine tw_g12_8 (k := 442) (v := .ref (tw_zB z + 444)) X dX12_used_16 _ tw_w1260 tw_kc442 rfl ?_
    refine r_iload_n X dX12_used_19 rfl 0 rfl ?_
    refine r_bd (fun r5 hr5 => ?_)
    refine tw_c_X12_clueAt X dX12_used_20 _ tw_w1460  hr5 (tw_le hfr rfl) (tw_le hlo rfl) hcs (Nat.le_of_ble_eq_true rfl) trivial ?_
    refine r_iconst X dX12_used_23 (v := (0 : Int32)) (by decide) ?_
    refine r_iadd X dX12_used_24 ?_
    refine r_iald (k := 444) X dX12_used_25 tw_kc444 ?_
    refine r_iadd X dX12_used_26 ?_
    refine r_istore_n X dX12_used_27 rfl (by decide) (LL := fun v6 => [(1, .int v6), (2, .int a3.2), (0, .ref (tw_zB z + 442))]) (fun _ => rfl) (fun v6 => ?_)
    refine r_iinc X dX12_used_28 1 rfl (v := (1 : Int32)) (by decide) (by decide) (LL := fun v7 => [(2, .int v7), (1, .int v6), (0, .ref (tw_zB z + 442))]) (fun _ => rfl) (fun v7 => ?_)
    refine r_goto X dX12_used_31 (tgt := 4) (by decide) ?_
    exact hk4 (v6, v7)
theorem tw_c_X12_used {ρ : Type} {z : tw_Z} {cc : ByteArray} {own : String} {nL pc : Nat} {σ : tw_Sg} {L : List (Nat × Value)} {st : List Value} {ix : Nat} {n : Nat}  (X : tw_X z cc own nL) (d : decode cc pc = .ok (.invokevirtual ix, 3)) (i : Nat) (hi : lw_tbl[i]? = some (.methodLink own ix yX12_used))  {res : ρ} {E : Option ρ} {r : Int32} (h : tw_P_X12_used n σ = some r) (h1 : 2 ≤ (tw_zR z).frames) (h2 : 42 ≤ (tw_zR z).locals) (hcs : tw_zcells z ≤ (tw_zR z).cells ∧ tw_zslots z ≤ (tw_zR z).slots) (hst : (st.map fun v => v.category).sum ≤ 8) (_ : True) (kk : tw_Rf z res E σ (pc + 3) L (.int r :: st)) : tw_Rf z res E σ pc L (.ref (tw_zB z + 442) :: st) := r_callV (As := []) X d (tw_m_X12_used  h) tw_y_X12_used tw_v_X12_used i hi rfl (tw_kd_lt tw_kc442 (by decide)) (tw_E12 tw_kc442) rfl ⟨rfl, rfl, h1, h2⟩ hcs hst rfl kk
def tw_P_X12_count (n : Nat) (x0 : Int32) (σ : tw_Sg) : Option (Int32 × tw_Sg) :=
tw_lt (0 : Int32) (fun (v1 : Int32) =>
tw_lt (0 : Int32) (fun (v2 : Int32) =>
tw_lp (fun (k4 : (Int32 × Int32 × tw_Sg) → Option (Int32 × tw_Sg)) (a3 : Int32 × Int32 × tw_Sg) =>
tw_bd (tw_P_X12_cells a3.2.2) (fun r5 =>
if r5 ≤ a3.2.1 then (some (a3.1, a3.2.2))
else (tw_jn (fun (a6 : Int32 × tw_Sg) =>
tw_lt (a3.1 + a6.1) (fun (v8 : Int32) =>
tw_lt (a3.2.1 + (1 : Int32)) (fun (v9 : Int32) =>
k4 (v8, v9, a6.2)))) (fun (j7 : (Int32 × tw_Sg) → Option (Int32 × tw_Sg)) =>
tw_jn (fun (a10 : tw_Sg) =>
j7 ((0 : Int32), a10)) (fun (j11 : (tw_Sg) → Option (Int32 × tw_Sg)) =>
tw_jn (fun (a12 : tw_Sg) =>
j7 ((1 : Int32), a12)) (fun (j13 : (tw_Sg) → Option (Int32 × tw_Sg)) =>
if ¬ x0 = 0 then (if ¬ x0 = (1 : Int32) then (tw_ck (tw_ok ((408 : Int32) + a3.2.1) (tw_ln 444)) (
if ¬ (a3.2.2 444 (Int32.toNatClampNeg ((408 : Int32) + a3.2.1))) = (1 : Int32) then (j11 a3.2.2)
else (j13 a3.2.2)))
else (tw_bd (tw_P_X12_isLeft n a3.2.1 a3.2.2) (fun r14 =>
if r14.1 = 0 then (j11 r14.2)
else (j13 r14.2))))
else (tw_bd (tw_P_X12_isCandidate n a3.2.1 a3.2.2) (fun r15 =>
if r15.1 = 0 then (j11 r15.2)
else (j13 r15.2))))))))) n (v1, v2, σ)))
theorem tw_y_X12_count : tw_My yX12_count cX12_count 4 (some .int) 1 := ⟨List.mem_of_getElem? tw_w1522, List.mem_of_getElem? tw_w101, by decide +kernel, by decide +kernel, by decide +kernel⟩
theorem tw_v_X12_count : tw_Mv yX12_count "TreasureWalkModel" := ⟨List.mem_of_getElem? tw_w1521, List.mem_of_getElem? tw_w63, rfl⟩
set_option maxRecDepth 100000 in
set_option maxHeartbeats 4000000 in
theorem tw_m_X12_count {l : Launch} {B : Nat} {D : va_G} {C : Nat → ClassId} {S : Nat → Nat} {n : Nat} {x0 : Int32} {σ : tw_Sg}  {r : Int32 × tw_Sg} (h : tw_P_X12_count n x0 σ = some r) : tw_Met l B D C S yX12_count cX12_count 4 (some .int) ({ frames := 9, cells := 0, slots := 0, locals := 215 } : Room) [.ref (B + 442), .int x0] σ (some (.int r.1)) r.2 := by
  refine tw_metOfP (tw_P_X12_count n x0 σ) r h (fun r => (some (.int r.1), r.2)) (by decide +kernel) (Nat.le_of_ble_eq_true rfl) ⟨rfl, rfl⟩ ?_
  intro z el eB eD eC eS hfr hlo hcs X hret hQ
  subst el eB eD eC eS
  have X : tw_X z cX12_count "TreasureWalkModel" 4 := X
  show tw_Rf z r _ σ 0 [(0, .ref (tw_zB z + 442)), (1, .int x0)] []
  unfold tw_P_X12_count
  refine r_iconst X dX12_count_0 (v := (0 : Int32)) (by decide) ?_
  refine r_istore_n X dX12_count_1 rfl (by decide) (LL := fun v1 => [(2, .int v1), (0, .ref (tw_zB z + 442)), (1, .int x0)]) (fun _ => rfl) (fun v1 => ?_)
  refine r_iconst X dX12_count_2 (v := (0 : Int32)) (by decide) ?_
  refine r_istore_n X dX12_count_3 rfl (by decide) (LL := fun v2 => [(3, .int v2), (2, .int v1), (0, .ref (tw_zB z + 442)), (1, .int x0)]) (fun _ => rfl) (fun v2 => ?_)
  refine r_lp (α := Int32 × Int32 × tw_Sg) (σJ := fun a3 => a3.2.2) (pcJ := 4) (LJ := fun a3 => [(3, .int a3.2.1), (2, .int a3.1), (0, .ref (tw_zB z + 442)), (1, .int x0)]) (stJ := fun a3 => []) (fun k4 hk4 a3 => ?_) n (v1, v2, σ)
  refine r_iload_n X dX12_count_4 rfl 0 rfl ?_
  refine r_aload_n X dX12_count_5 rfl 2 rfl ?_
  refine r_bd (fun r5 hr5 => ?_)
  refine tw_c_X12_cells X dX12_count_6 _ tw_w1523  hr5 (tw_le hfr rfl) (tw_le hlo rfl) hcs (Nat.le_of_ble_eq_true rfl) trivial ?_
  refine r_icmp_ge X dX12_count_9 (tgt := 71) (by decide) ?_ ?_
  ·
    refine r_iload_n X dX12_count_71 rfl 1 rfl ?_
    exact r_iret X dX12_count_72 hret hQ rfl
  ·
    refine r_iload_n X dX12_count_12 rfl 1 rfl ?_
    refine r_iload_n X dX12_count_13 rfl 3 rfl ?_
    refine r_jn (α := Int32 × tw_Sg) (σJ := fun a6 => a6.2) (pcJ := 63) (LJ := fun a6 => [(3, .int a3.2.1), (0, .ref (tw_zB z + 442)), (1, .int x0)]) (stJ := fun a6 => [.int a6.1, .int a3.1]) (ok := fun a6 => True) (fun a6 hoka6 => ?_) (fun j7 hj7 => ?_)
    ·
      refine r_iadd X dX12_count_63 ?_
      refine r_istore_n X dX12_count_64 rfl (by decide) (LL := fun v8 => [(2, .int v8), (3, .int a3.2.1), (0, .ref (tw_zB z + 442)), (1, .int x0)]) (fun _ => rfl) (fun v8 => ?_)
      refine r_iinc X dX12_count_65 1 rfl (v := (1 : Int32)) (by decide) (by decide) (LL := fun v9 => [(3, .int v9), (2, .int v8), (0, .ref (tw_zB z + 442)), (1, .int x0)]) (fun _ => rfl) (fun v9 => ?_)
      refine r_goto X dX12_count_68 (tgt := 4) (by decide) ?_
      exact hk4 (v8, v9, a6.2)
    refine r_jn (α := tw_Sg) (σJ := fun a10 => a10) (pcJ := 62) (LJ := fun a10 => [(3, .int a3.2.1), (0, .ref (tw_zB z + 442)), (1, .int x0)]) (stJ := fun a10 => [.int a3.1]) (ok := fun a10 => True) (fun a10 hoka10 => ?_) (fun j11 hj11 => ?_)
    ·
      refine r_iconst X dX12_count_62 (v := (0 : Int32)) (by decide) ?_
      exact hj7 ((0 : Int32), a10) trivial
    refine r_jn (α := tw_Sg) (σJ := fun a12 => a12) (pcJ := 58) (LJ := fun a12 => [(3, .int a3.2.1), (0, .ref (tw_zB z + 442)), (1, .int x0)]) (stJ := fun a12 => [.int a3.1]) (ok := fun a12 => True) (fun a12 hoka12 => ?_) (fun j13 hj13 => ?_)
    ·
      refine r_iconst X dX12_count_58 (v := (1 : Int32)) (by decide) ?_
      refine r_goto X dX12_count_59 (tgt := 63) (by decide) ?_
      exact hj7 ((1 : Int32), a12) trivial
    refine r_if_ne X dX12_count_14 (tgt := 28) (by decide) ?_ ?_
    ·
      refine r_iload_n X dX12_count_28 rfl 3 rfl ?_
      refine r_iconst X dX12_count_29 (v := (1 : Int32)) (by decide) ?_
      refine r_icmp_ne X dX12_count_30 (tgt := 44) (by decide) ?_ ?_
      ·
        refine r_aload_n X dX12_count_44 rfl 2 rfl ?_
        refine tw_g12_8 (k := 442) (v := .ref (tw_zB z + 444)) X dX12_count_45 _ tw_w1260 tw_kc442 rfl ?_
        refine r_sipush X dX12_count_48 (v := (408 : Int32)) (by decide) ?_
        refine r_iload_n X dX12_count_51 rfl 0 rfl ?_
        refine r_iadd X dX12_count_52 ?_
        refine r_iald (k := 444) X dX12_count_53 tw_kc444 ?_
        refine r_iconst X dX12_count_54 (v := (1 : Int32)) (by decide) ?_
        refine r_icmp_ne X dX12_count_55 (tgt := 62) (by decide) ?_ ?_
        ·
          exact tw_Rf.sub [0, 2, 3] rfl (hj11 a3.2.2 trivial)
        ·
          exact tw_Rf.sub [0, 2, 3] rfl (hj13 a3.2.2 trivial)
      ·
        refine r_aload_n X dX12_count_33 rfl 2 rfl ?_
        refine r_iload_n X dX12_count_34 rfl 0 rfl ?_
        refine r_bd (fun r14 hr14 => ?_)
        refine tw_c_X12_isLeft X dX12_count_35 _ tw_w1584  hr14 (tw_le hfr rfl) (tw_le hlo rfl) hcs (Nat.le_of_ble_eq_true rfl) trivial ?_
        refine r_if_eq X dX12_count_38 (tgt := 62) (by decide) ?_ ?_
        ·
          exact tw_Rf.sub [0, 2, 3] rfl (hj11 r14.2 trivial)
        ·
          refine r_goto X dX12_count_41 (tgt := 58) (by decide) ?_
          exact tw_Rf.sub [0, 2, 3] rfl (hj13 r14.2 trivial)
    ·
      refine r_aload_n X dX12_count_17 rfl 2 rfl ?_
      refine r_iload_n X dX12_count_18 rfl 0 rfl ?_
      refine r_bd (fun r15 hr15 => ?_)
      refine tw_c_X12_isCandidate X dX12_count_19 _ tw_w1527  hr15 (tw_le hfr rfl) (tw_le hlo rfl) hcs (Nat.le_of_ble_eq_true rfl) trivial ?_
      refine r_if_eq X dX12_count_22 (tgt := 62) (by decide) ?_ ?_
      ·
        exact tw_Rf.sub [0, 2, 3] rfl (hj11 r15.2 trivial)
      ·
        refine r_goto X dX12_count_25 (tgt := 58) (by decide) ?_
        exact tw_Rf.sub [0, 2, 3] rfl (hj13 r15.2 trivial)
theorem tw_c_X12_count {ρ : Type} {z : tw_Z} {cc : ByteArray} {own : String} {nL pc : Nat} {σ : tw_Sg} {L : List (Nat × Value)} {st : List Value} {ix : Nat} {n : Nat} {x0 : Int32} (X : tw_X z cc own nL) (d : decode cc pc = .ok (.invokevirtual ix, 3)) (i : Nat) (hi : lw_tbl[i]? = some (.methodLink own ix yX12_count))  {res : ρ} {E : Option ρ} {r : Int32 × tw_Sg} (h : tw_P_X12_count n x0 σ = some r) (h1 : 10 ≤ (tw_zR z).frames) (h2 : 238 ≤ (tw_zR z).locals) (hcs : tw_zcells z ≤ (tw_zR z).cells ∧ tw_zslots z ≤ (tw_zR z).slots) (hst : (st.map fun v => v.category).sum ≤ 8) (_ : True) (kk : tw_Rf z res E r.2 (pc + 3) L (.int r.1 :: st)) : tw_Rf z res E σ pc L (.int x0 :: .ref (tw_zB z + 442) :: st) := r_callV (As := [.int x0]) X d (tw_m_X12_count  h) tw_y_X12_count tw_v_X12_count i hi rfl (tw_kd_lt tw_kc442 (by decide)) (tw_E12 tw_kc442) rfl ⟨rfl, rfl, h1, h2⟩ hcs hst rfl kk
def tw_P_X12_told (n : Nat) (x0 : Int32) (σ : tw_Sg) : Option (Int32 × tw_Sg) :=
if x0 = (0 : Int32) then (tw_ck (tw_ok (0 : Int32) (tw_ln 444)) (
some ((σ 444 (Int32.toNatClampNeg (0 : Int32))), σ)))
else (if x0 = (1 : Int32) then (tw_ck (tw_ok (1 : Int32) (tw_ln 444)) (
some ((σ 444 (Int32.toNatClampNeg (1 : Int32))), σ)))
else (if x0 = (2 : Int32) then (tw_bd (tw_P_X12_marks n σ) (fun r4 =>
some (r4, σ)))
else (if x0 = (3 : Int32) then (tw_ck (tw_ok (2 : Int32) (tw_ln 444)) (
some ((σ 444 (Int32.toNatClampNeg (2 : Int32))), σ)))
else (if x0 = (4 : Int32) then (tw_ck (tw_ok (3 : Int32) (tw_ln 444)) (
some ((σ 444 (Int32.toNatClampNeg (3 : Int32))), σ)))
else (if x0 = (5 : Int32) then (tw_bd (tw_P_X12_used n σ) (fun r8 =>
some (r8, σ)))
else (if x0 = (6 : Int32) then (tw_bd (tw_P_X12_count n (x0 - (6 : Int32)) σ) (fun r10 =>
some (r10.1, r10.2)))
else (if x0 = (7 : Int32) then (tw_bd (tw_P_X12_count n (x0 - (6 : Int32)) σ) (fun r12 =>
some (r12.1, r12.2)))
else (if x0 = (8 : Int32) then (tw_bd (tw_P_X12_count n (x0 - (6 : Int32)) σ) (fun r14 =>
some (r14.1, r14.2)))
else (if x0 = (9 : Int32) then (tw_bd (tw_P_X12_layParts n σ) (fun r16 =>
some (r16.1, r16.2)))
else (if x0 = (10 : Int32) then (tw_ck (tw_ok (4 : Int32) (tw_ln 444)) (
some ((σ 444 (Int32.toNatClampNeg (4 : Int32))), σ)))
else (if x0 = (11 : Int32) then (tw_ck (tw_ok (5 : Int32) (tw_ln 444)) (
some ((σ 444 (Int32.toNatClampNeg (5 : Int32))), σ)))
else (tw_ck (tw_ok (6 : Int32) (tw_ln 444)) (
some ((σ 444 (Int32.toNatClampNeg (6 : Int32))), σ))))))))))))))
theorem tw_y_X12_told : tw_My yX12_told cX12_told 2 (some .int) 1 := ⟨List.mem_of_getElem? tw_w1510, List.mem_of_getElem? tw_w101, by decide +kernel, by decide +kernel, by decide +kernel⟩
theorem tw_v_X12_told : tw_Mv yX12_told "TreasureWalkModel" := ⟨List.mem_of_getElem? tw_w1509, List.mem_of_getElem? tw_w60, rfl⟩
set_option maxRecDepth 100000 in
set_option maxHeartbeats 4000000 in
theorem tw_m_X12_told {l : Launch} {B : Nat} {D : va_G} {C : Nat → ClassId} {S : Nat → Nat} {n : Nat} {x0 : Int32} {σ : tw_Sg}  {r : Int32 × tw_Sg} (h : tw_P_X12_told n x0 σ = some r) : tw_Met l B D C S yX12_told cX12_told 2 (some .int) ({ frames := 10, cells := 0, slots := 0, locals := 241 } : Room) [.ref (B + 442), .int x0] σ (some (.int r.1)) r.2 := by
  refine tw_metOfP (tw_P_X12_told n x0 σ) r h (fun r => (some (.int r.1), r.2)) (by decide +kernel) (Nat.le_of_ble_eq_true rfl) ⟨rfl, rfl⟩ ?_
  intro z el eB eD eC eS hfr hlo hcs X hret hQ
  subst el eB eD eC eS
  have X : tw_X z cX12_told "TreasureWalkModel" 2 := X
  show tw_Rf z r _ σ 0 [(0, .ref (tw_zB z + 442)), (1, .int x0)] []
  unfold tw_P_X12_told
  refine r_iload_n X dX12_told_0 rfl 1 rfl ?_
  refine r_ite (fun h1 => ?_) (fun h1 => ?_)
  ·
    refine r_tsw X dX12_told_1 h1 (by decide) (by decide) rfl (tgt := 64) (by decide) ?_
    refine r_aload_n X dX12_told_64 rfl 0 rfl ?_
    refine tw_g12_8 (k := 442) (v := .ref (tw_zB z + 444)) X dX12_told_65 _ tw_w1260 tw_kc442 rfl ?_
    refine r_iconst X dX12_told_68 (v := (0 : Int32)) (by decide) ?_
    refine r_iald (k := 444) X dX12_told_69 tw_kc444 ?_
    exact r_iret X dX12_told_70 hret hQ rfl
  refine r_ite (fun h2 => ?_) (fun h2 => ?_)
  ·
    refine r_tsw X dX12_told_1 h2 (by decide) (by decide) rfl (tgt := 71) (by decide) ?_
    refine r_aload_n X dX12_told_71 rfl 0 rfl ?_
    refine tw_g12_8 (k := 442) (v := .ref (tw_zB z + 444)) X dX12_told_72 _ tw_w1260 tw_kc442 rfl ?_
    refine r_iconst X dX12_told_75 (v := (1 : Int32)) (by decide) ?_
    refine r_iald (k := 444) X dX12_told_76 tw_kc444 ?_
    exact r_iret X dX12_told_77 hret hQ rfl
  refine r_ite (fun h3 => ?_) (fun h3 => ?_)
  ·
    refine r_tsw X dX12_told_1 h3 (by decide) (by decide) rfl (tgt := 78) (by decide) ?_
    refine r_aload_n X dX12_told_78 rfl 0 rfl ?_
    refine r_bd (fun r4 hr4 => ?_)
    refine tw_c_X12_marks X dX12_told_79 _ tw_w1511  hr4 (tw_le hfr rfl) (tw_le hlo rfl) hcs (Nat.le_of_ble_eq_true rfl) trivial ?_
    exact r_iret X dX12_told_82 hret hQ rfl
  refine r_ite (fun h5 => ?_) (fun h5 => ?_)
  ·
    refine r_tsw X dX12_told_1 h5 (by decide) (by decide) rfl (tgt := 83) (by decide) ?_
    refine r_aload_n X dX12_told_83 rfl 0 rfl ?_
    refine tw_g12_8 (k := 442) (v := .ref (tw_zB z + 444)) X dX12_told_84 _ tw_w1260 tw_kc442 rfl ?_
    refine r_iconst X dX12_told_87 (v := (2 : Int32)) (by decide) ?_
    refine r_iald (k := 444) X dX12_told_88 tw_kc444 ?_
    exact r_iret X dX12_told_89 hret hQ rfl
  refine r_ite (fun h6 => ?_) (fun h6 => ?_)
  ·
    refine r_tsw X dX12_told_1 h6 (by decide) (by decide) rfl (tgt := 90) (by decide) ?_
    refine r_aload_n X dX12_told_90 rfl 0 rfl ?_
    refine tw_g12_8 (k := 442) (v := .ref (tw_zB z + 444)) X dX12_told_91 _ tw_w1260 tw_kc442 rfl ?_
    refine r_iconst X dX12_told_94 (v := (3 : Int32)) (by decide) ?_
    refine r_iald (k := 444) X dX12_told_95 tw_kc444 ?_
    exact r_iret X dX12_told_96 hret hQ rfl
  refine r_ite (fun h7 => ?_) (fun h7 => ?_)
  ·
    refine r_tsw X dX12_told_1 h7 (by decide) (by decide) rfl (tgt := 97) (by decide) ?_
    refine r_aload_n X dX12_told_97 rfl 0 rfl ?_
    refine r_bd (fun r8 hr8 => ?_)
    refine tw_c_X12_used X dX12_told_98 _ tw_w1515  hr8 (tw_le hfr rfl) (tw_le hlo rfl) hcs (Nat.le_of_ble_eq_true rfl) trivial ?_
    exact r_iret X dX12_told_101 hret hQ rfl
  refine r_ite (fun h9 => ?_) (fun h9 => ?_)
  ·
    refine r_tsw X dX12_told_1 h9 (by decide) (by decide) rfl (tgt := 102) (by decide) ?_
    refine r_aload_n X dX12_told_102 rfl 0 rfl ?_
    refine r_iload_n X dX12_told_103 rfl 1 rfl ?_
    refine r_bipush X dX12_told_104 (v := (6 : Int32)) (by decide) ?_
    refine r_isub X dX12_told_106 ?_
    refine r_bd (fun r10 hr10 => ?_)
    refine tw_c_X12_count X dX12_told_107 _ tw_w1519  hr10 (tw_le hfr rfl) (tw_le hlo rfl) hcs (Nat.le_of_ble_eq_true rfl) trivial ?_
    exact r_iret X dX12_told_110 hret hQ rfl
  refine r_ite (fun h11 => ?_) (fun h11 => ?_)
  ·
    refine r_tsw X dX12_told_1 h11 (by decide) (by decide) rfl (tgt := 102) (by decide) ?_
    refine r_aload_n X dX12_told_102 rfl 0 rfl ?_
    refine r_iload_n X dX12_told_103 rfl 1 rfl ?_
    refine r_bipush X dX12_told_104 (v := (6 : Int32)) (by decide) ?_
    refine r_isub X dX12_told_106 ?_
    refine r_bd (fun r12 hr12 => ?_)
    refine tw_c_X12_count X dX12_told_107 _ tw_w1519  hr12 (tw_le hfr rfl) (tw_le hlo rfl) hcs (Nat.le_of_ble_eq_true rfl) trivial ?_
    exact r_iret X dX12_told_110 hret hQ rfl
  refine r_ite (fun h13 => ?_) (fun h13 => ?_)
  ·
    refine r_tsw X dX12_told_1 h13 (by decide) (by decide) rfl (tgt := 102) (by decide) ?_
    refine r_aload_n X dX12_told_102 rfl 0 rfl ?_
    refine r_iload_n X dX12_told_103 rfl 1 rfl ?_
    refine r_bipush X dX12_told_104 (v := (6 : Int32)) (by decide) ?_
    refine r_isub X dX12_told_106 ?_
    refine r_bd (fun r14 hr14 => ?_)
    refine tw_c_X12_count X dX12_told_107 _ tw_w1519  hr14 (tw_le hfr rfl) (tw_le hlo rfl) hcs (Nat.le_of_ble_eq_true rfl) trivial ?_
    exact r_iret X dX12_told_110 hret hQ rfl
  refine r_ite (fun h15 => ?_) (fun h15 => ?_)
  ·
    refine r_tsw X dX12_told_1 h15 (by decide) (by decide) rfl (tgt := 111) (by decide) ?_
    refine r_aload_n X dX12_told_111 rfl 0 rfl ?_
    refine r_bd (fun r16 hr16 => ?_)
    refine tw_c_X12_layParts X dX12_told_112 _ tw_w1588  hr16 (tw_le hfr rfl) (tw_le hlo rfl) hcs (Nat.le_of_ble_eq_true rfl) trivial ?_
    exact r_iret X dX12_told_115 hret hQ rfl
  refine r_ite (fun h17 => ?_) (fun h17 => ?_)
  ·
    refine r_tsw X dX12_told_1 h17 (by decide) (by decide) rfl (tgt := 116) (by decide) ?_
    refine r_aload_n X dX12_told_116 rfl 0 rfl ?_
    refine tw_g12_8 (k := 442) (v := .ref (tw_zB z + 444)) X dX12_told_117 _ tw_w1260 tw_kc442 rfl ?_
    refine r_iconst X dX12_told_120 (v := (4 : Int32)) (by decide) ?_
    refine r_iald (k := 444) X dX12_told_121 tw_kc444 ?_
    exact r_iret X dX12_told_122 hret hQ rfl
  refine r_ite (fun h18 => ?_) (fun h18 => ?_)
  ·
    refine r_tsw X dX12_told_1 h18 (by decide) (by decide) rfl (tgt := 123) (by decide) ?_
    refine r_aload_n X dX12_told_123 rfl 0 rfl ?_
    refine tw_g12_8 (k := 442) (v := .ref (tw_zB z + 444)) X dX12_told_124 _ tw_w1260 tw_kc442 rfl ?_
    refine r_iconst X dX12_told_127 (v := (5 : Int32)) (by decide) ?_
    refine r_iald (k := 444) X dX12_told_128 tw_kc444 ?_
    exact r_iret X dX12_told_129 hret hQ rfl
  refine r_tswD X dX12_told_1 (tgt := 130) (tw_out11 h1 h2 h3 h5 h6 h7 h9 h11 h13 h15 h17 h18) (by decide) ?_
  refine r_aload_n X dX12_told_130 rfl 0 rfl ?_
  refine tw_g12_8 (k := 442) (v := .ref (tw_zB z + 444)) X dX12_told_131 _ tw_w1260 tw_kc442 rfl ?_
  refine r_bipush X dX12_told_134 (v := (6 : Int32)) (by decide) ?_
  refine r_iald (k := 444) X dX12_told_136 tw_kc444 ?_
  exact r_iret X dX12_told_137 hret hQ rfl
theorem tw_c_X12_told {ρ : Type} {z : tw_Z} {cc : ByteArray} {own : String} {nL pc : Nat} {σ : tw_Sg} {L : List (Nat × Value)} {st : List Value} {ix : Nat} {n : Nat} {x0 : Int32} (X : tw_X z cc own nL) (d : decode cc pc = .ok (.invokevirtual ix, 3)) (i : Nat) (hi : lw_tbl[i]? = some (.methodLink own ix yX12_told))  {res : ρ} {E : Option ρ} {r : Int32 × tw_Sg} (h : tw_P_X12_told n x0 σ = some r) (h1 : 11 ≤ (tw_zR z).frames) (h2 : 262 ≤ (tw_zR z).locals) (hcs : tw_zcells z ≤ (tw_zR z).cells ∧ tw_zslots z ≤ (tw_zR z).slots) (hst : (st.map fun v => v.category).sum ≤ 8) (_ : True) (kk : tw_Rf z res E r.2 (pc + 3) L (.int r.1 :: st)) : tw_Rf z res E σ pc L (.int x0 :: .ref (tw_zB z + 442) :: st) := r_callV (As := [.int x0]) X d (tw_m_X12_told  h) tw_y_X12_told tw_v_X12_told i hi rfl (tw_kd_lt tw_kc442 (by decide)) (tw_E12 tw_kc442) rfl ⟨rfl, rfl, h1, h2⟩ hcs hst rfl kk
def tw_P_X12_state (n : Nat) (x0 : Int32) (σ : tw_Sg) : Option (Int32 × tw_Sg) :=
tw_lt (tw_up σ 442 0 (0 : Int32)) (fun (σ1 : tw_Sg) =>
tw_bd (tw_P_X12_in x0 (0 : Int32) (12 : Int32) σ1) (fun r2 =>
tw_jn (fun (a3 : Int32) =>
tw_bd (tw_P_X12_fails a3 (1 : Int32) σ1) (fun r5 =>
tw_jn (fun (a6 : Int32 × tw_Sg) =>
some (a6.1, a6.2)) (fun (j7 : (Int32 × tw_Sg) → Option (Int32 × tw_Sg)) =>
if r5.1 = 0 then (tw_bd (tw_P_X12_told n x0 r5.2) (fun r8 =>
j7 (r8.1, r8.2)))
else (j7 ((0 : Int32), r5.2))))) (fun (j4 : (Int32) → Option (Int32 × tw_Sg)) =>
if ¬ r2 = 0 then (j4 (0 : Int32))
else (j4 (1 : Int32)))))
theorem tw_y_X12_state : tw_My yX12_state cX12_state 2 (some .int) 1 := ⟨List.mem_of_getElem? tw_w1506, List.mem_of_getElem? tw_w101, by decide +kernel, by decide +kernel, by decide +kernel⟩
theorem tw_v_X12_state : tw_Mv yX12_state "TreasureWalkModel" := ⟨List.mem_of_getElem? tw_w1504, List.mem_of_getElem? tw_w1505, rfl⟩
set_option maxRecDepth 100000 in
set_option maxHeartbeats 4000000 in
theorem tw_m_X12_state {l : Launch} {B : Nat} {D : va_G} {C : Nat → ClassId} {S : Nat → Nat} {n : Nat} {x0 : Int32} {σ : tw_Sg}  {r : Int32 × tw_Sg} (h : tw_P_X12_state n x0 σ = some r) : tw_Met l B D C S yX12_state cX12_state 2 (some .int) ({ frames := 11, cells := 0, slots := 0, locals := 262 } : Room) [.ref (B + 442), .int x0] σ (some (.int r.1)) r.2 := by
  refine tw_metOfP (tw_P_X12_state n x0 σ) r h (fun r => (some (.int r.1), r.2)) (by decide +kernel) (Nat.le_of_ble_eq_true rfl) ⟨rfl, rfl⟩ ?_
  intro z el eB eD eC eS hfr hlo hcs X hret hQ
  subst el eB eD eC eS
  have X : tw_X z cX12_state "TreasureWalkModel" 2 := X
  show tw_Rf z r _ σ 0 [(0, .ref (tw_zB z + 442)), (1, .int x0)] []
  unfold tw_P_X12_state
  refine r_aload_n X dX12_state_0 rfl 0 rfl ?_
  refine r_iconst X dX12_state_1 (v := (0 : Int32)) (by decide) ?_
  refine tw_s12_0 (k := 442) X dX12_state_2 _ tw_w1252 tw_kc442 (fun σ1 => ?_)
  refine r_aload_n X dX12_state_5 rfl 0 rfl ?_
  refine r_iload_n X dX12_state_6 rfl 1 rfl ?_
  refine r_iconst X dX12_state_7 (v := (0 : Int32)) (by decide) ?_
  refine r_bipush X dX12_state_8 (v := (12 : Int32)) (by decide) ?_
  refine r_bd (fun r2 hr2 => ?_)
  refine tw_c_X12_in X dX12_state_10 _ tw_w1359  hr2 (tw_le hfr rfl) (tw_le hlo rfl) hcs (Nat.le_of_ble_eq_true rfl) trivial ?_
  refine r_jn (α := Int32) (σJ := fun a3 => σ1) (pcJ := 21) (LJ := fun a3 => [(0, .ref (tw_zB z + 442)), (1, .int x0)]) (stJ := fun a3 => [.int a3, .ref (tw_zB z + 442)]) (ok := fun a3 => True) (fun a3 hoka3 => ?_) (fun j4 hj4 => ?_)
  ·
    refine r_iconst X dX12_state_21 (v := (1 : Int32)) (by decide) ?_
    refine r_bd (fun r5 hr5 => ?_)
    refine tw_c_X12_fails X dX12_state_22 _ tw_w1362  hr5 (tw_le hfr rfl) (tw_le hlo rfl) hcs (Nat.le_of_ble_eq_true rfl) trivial ?_
    refine r_jn (α := Int32 × tw_Sg) (σJ := fun a6 => a6.2) (pcJ := 37) (LJ := fun a6 => []) (stJ := fun a6 => [.int a6.1]) (ok := fun a6 => True) (fun a6 hoka6 => ?_) (fun j7 hj7 => ?_)
    ·
      exact r_iret X dX12_state_37 hret hQ rfl
    refine r_if_eq X dX12_state_25 (tgt := 32) (by decide) ?_ ?_
    ·
      refine r_aload_n X dX12_state_32 rfl 0 rfl ?_
      refine r_iload_n X dX12_state_33 rfl 1 rfl ?_
      refine r_bd (fun r8 hr8 => ?_)
      refine tw_c_X12_told X dX12_state_34 _ tw_w1507  hr8 (tw_le hfr rfl) (tw_le hlo rfl) hcs (Nat.le_of_ble_eq_true rfl) trivial ?_
      exact tw_Rf.sub [] rfl (hj7 (r8.1, r8.2) trivial)
    ·
      refine r_iconst X dX12_state_28 (v := (0 : Int32)) (by decide) ?_
      refine r_goto X dX12_state_29 (tgt := 37) (by decide) ?_
      exact tw_Rf.sub [] rfl (hj7 ((0 : Int32), r5.2) trivial)
  refine r_if_ne X dX12_state_13 (tgt := 20) (by decide) ?_ ?_
  ·
    refine r_iconst X dX12_state_20 (v := (0 : Int32)) (by decide) ?_
    exact hj4 (0 : Int32) trivial
  ·
    refine r_iconst X dX12_state_16 (v := (1 : Int32)) (by decide) ?_
    refine r_goto X dX12_state_17 (tgt := 21) (by decide) ?_
    exact hj4 (1 : Int32) trivial
theorem tw_c_X12_state {ρ : Type} {z : tw_Z} {cc : ByteArray} {own : String} {nL pc : Nat} {σ : tw_Sg} {L : List (Nat × Value)} {st : List Value} {ix : Nat} {n : Nat} {x0 : Int32} (X : tw_X z cc own nL) (d : decode cc pc = .ok (.invokevirtual ix, 3)) (i : Nat) (hi : lw_tbl[i]? = some (.methodLink own ix yX12_state))  {res : ρ} {E : Option ρ} {r : Int32 × tw_Sg} (h : tw_P_X12_state n x0 σ = some r) (h1 : 12 ≤ (tw_zR z).frames) (h2 : 283 ≤ (tw_zR z).locals) (hcs : tw_zcells z ≤ (tw_zR z).cells ∧ tw_zslots z ≤ (tw_zR z).slots) (hst : (st.map fun v => v.category).sum ≤ 8) (_ : True) (kk : tw_Rf z res E r.2 (pc + 3) L (.int r.1 :: st)) : tw_Rf z res E σ pc L (.int x0 :: .ref (tw_zB z + 442) :: st) := r_callV (As := [.int x0]) X d (tw_m_X12_state  h) tw_y_X12_state tw_v_X12_state i hi rfl (tw_kd_lt tw_kc442 (by decide)) (tw_E12 tw_kc442) rfl ⟨rfl, rfl, h1, h2⟩ hcs hst rfl kk
def tw_P_X12_toldCell (n : Nat) (x0 : Int32) (σ : tw_Sg) : Option (Int32 × tw_Sg) :=
tw_bd (tw_P_X12_isLand x0 σ) (fun r1 =>
if ¬ r1 = 0 then (tw_bd (tw_P_X12_isCandidate n x0 σ) (fun r2 =>
tw_jn (fun (a3 : Int32) =>
tw_ck (tw_ok ((408 : Int32) + x0) (tw_ln 444)) (
some ((a3 + (r2.2 444 (Int32.toNatClampNeg ((408 : Int32) + x0)))), r2.2))) (fun (j4 : (Int32) → Option (Int32 × tw_Sg)) =>
if r2.1 = 0 then (j4 (1 : Int32))
else (j4 (3 : Int32)))))
else (some ((0 : Int32), σ)))
theorem tw_y_X12_toldCell : tw_My yX12_toldCell cX12_toldCell 2 (some .int) 1 := ⟨List.mem_of_getElem? tw_w1603, List.mem_of_getElem? tw_w101, by decide +kernel, by decide +kernel, by decide +kernel⟩
theorem tw_v_X12_toldCell : tw_Mv yX12_toldCell "TreasureWalkModel" := ⟨List.mem_of_getElem? tw_w1602, List.mem_of_getElem? tw_w80, rfl⟩
set_option maxRecDepth 100000 in
set_option maxHeartbeats 4000000 in
theorem tw_m_X12_toldCell {l : Launch} {B : Nat} {D : va_G} {C : Nat → ClassId} {S : Nat → Nat} {n : Nat} {x0 : Int32} {σ : tw_Sg}  {r : Int32 × tw_Sg} (h : tw_P_X12_toldCell n x0 σ = some r) : tw_Met l B D C S yX12_toldCell cX12_toldCell 2 (some .int) ({ frames := 8, cells := 0, slots := 0, locals := 194 } : Room) [.ref (B + 442), .int x0] σ (some (.int r.1)) r.2 := by
  refine tw_metOfP (tw_P_X12_toldCell n x0 σ) r h (fun r => (some (.int r.1), r.2)) (by decide +kernel) (Nat.le_of_ble_eq_true rfl) ⟨rfl, rfl⟩ ?_
  intro z el eB eD eC eS hfr hlo hcs X hret hQ
  subst el eB eD eC eS
  have X : tw_X z cX12_toldCell "TreasureWalkModel" 2 := X
  show tw_Rf z r _ σ 0 [(0, .ref (tw_zB z + 442)), (1, .int x0)] []
  unfold tw_P_X12_toldCell
  refine r_aload_n X dX12_toldCell_0 rfl 0 rfl ?_
  refine r_iload_n X dX12_toldCell_1 rfl 1 rfl ?_
  refine r_bd (fun r1 hr1 => ?_)
  refine tw_c_X12_isLand X dX12_toldCell_2 _ tw_w1531  hr1 (tw_le hfr rfl) (tw_le hlo rfl) hcs (Nat.le_of_ble_eq_true rfl) trivial ?_
  refine r_if_ne X dX12_toldCell_5 (tgt := 10) (by decide) ?_ ?_
  ·
    refine r_aload_n X dX12_toldCell_10 rfl 0 rfl ?_
    refine r_iload_n X dX12_toldCell_11 rfl 1 rfl ?_
    refine r_bd (fun r2 hr2 => ?_)
    refine tw_c_X12_isCandidate X dX12_toldCell_12 _ tw_w1527  hr2 (tw_le hfr rfl) (tw_le hlo rfl) hcs (Nat.le_of_ble_eq_true rfl) trivial ?_
    refine r_jn (α := Int32) (σJ := fun a3 => r2.2) (pcJ := 23) (LJ := fun a3 => [(0, .ref (tw_zB z + 442)), (1, .int x0)]) (stJ := fun a3 => [.int a3]) (ok := fun a3 => True) (fun a3 hoka3 => ?_) (fun j4 hj4 => ?_)
    ·
      refine r_aload_n X dX12_toldCell_23 rfl 0 rfl ?_
      refine tw_g12_8 (k := 442) (v := .ref (tw_zB z + 444)) X dX12_toldCell_24 _ tw_w1260 tw_kc442 rfl ?_
      refine r_sipush X dX12_toldCell_27 (v := (408 : Int32)) (by decide) ?_
      refine r_iload_n X dX12_toldCell_30 rfl 1 rfl ?_
      refine r_iadd X dX12_toldCell_31 ?_
      refine r_iald (k := 444) X dX12_toldCell_32 tw_kc444 ?_
      refine r_iadd X dX12_toldCell_33 ?_
      exact r_iret X dX12_toldCell_34 hret hQ rfl
    refine r_if_eq X dX12_toldCell_15 (tgt := 22) (by decide) ?_ ?_
    ·
      refine r_iconst X dX12_toldCell_22 (v := (1 : Int32)) (by decide) ?_
      exact hj4 (1 : Int32) trivial
    ·
      refine r_iconst X dX12_toldCell_18 (v := (3 : Int32)) (by decide) ?_
      refine r_goto X dX12_toldCell_19 (tgt := 23) (by decide) ?_
      exact hj4 (3 : Int32) trivial
  ·
    refine r_iconst X dX12_toldCell_8 (v := (0 : Int32)) (by decide) ?_
    exact r_iret X dX12_toldCell_9 hret hQ rfl
theorem tw_c_X12_toldCell {ρ : Type} {z : tw_Z} {cc : ByteArray} {own : String} {nL pc : Nat} {σ : tw_Sg} {L : List (Nat × Value)} {st : List Value} {ix : Nat} {n : Nat} {x0 : Int32} (X : tw_X z cc own nL) (d : decode cc pc = .ok (.invokevirtual ix, 3)) (i : Nat) (hi : lw_tbl[i]? = some (.methodLink own ix yX12_toldCell))  {res : ρ} {E : Option ρ} {r : Int32 × tw_Sg} (h : tw_P_X12_toldCell n x0 σ = some r) (h1 : 9 ≤ (tw_zR z).frames) (h2 : 215 ≤ (tw_zR z).locals) (hcs : tw_zcells z ≤ (tw_zR z).cells ∧ tw_zslots z ≤ (tw_zR z).slots) (hst : (st.map fun v => v.category).sum ≤ 8) (_ : True) (kk : tw_Rf z res E r.2 (pc + 3) L (.int r.1 :: st)) : tw_Rf z res E σ pc L (.int x0 :: .ref (tw_zB z + 442) :: st) := r_callV (As := [.int x0]) X d (tw_m_X12_toldCell  h) tw_y_X12_toldCell tw_v_X12_toldCell i hi rfl (tw_kd_lt tw_kc442 (by decide)) (tw_E12 tw_kc442) rfl ⟨rfl, rfl, h1, h2⟩ hcs hst rfl kk
def tw_P_X12_cell (n : Nat) (x0 : Int32) (x1 : Int32) (σ : tw_Sg) : Option (Int32 × tw_Sg) :=
tw_lt (tw_up σ 442 0 (0 : Int32)) (fun (σ1 : tw_Sg) =>
tw_bd (tw_P_X12_noCell x0 x1 σ1) (fun r2 =>
tw_jn (fun (a3 : Int32 × tw_Sg) =>
some (a3.1, a3.2)) (fun (j4 : (Int32 × tw_Sg) → Option (Int32 × tw_Sg)) =>
if r2.1 = 0 then (tw_bd (tw_P_X12_cellAt x0 x1 r2.2) (fun r5 =>
tw_bd (tw_P_X12_toldCell n r5 r2.2) (fun r6 =>
j4 (r6.1, r6.2))))
else (j4 ((0 : Int32), r2.2)))))
theorem tw_y_X12_cell : tw_My yX12_cell cX12_cell 3 (some .int) 2 := ⟨List.mem_of_getElem? tw_w1595, List.mem_of_getElem? tw_w101, by decide +kernel, by decide +kernel, by decide +kernel⟩
theorem tw_v_X12_cell : tw_Mv yX12_cell "TreasureWalkModel" := ⟨List.mem_of_getElem? tw_w1593, List.mem_of_getElem? tw_w1594, rfl⟩
set_option maxRecDepth 100000 in
set_option maxHeartbeats 4000000 in
theorem tw_m_X12_cell {l : Launch} {B : Nat} {D : va_G} {C : Nat → ClassId} {S : Nat → Nat} {n : Nat} {x0 : Int32} {x1 : Int32} {σ : tw_Sg}  {r : Int32 × tw_Sg} (h : tw_P_X12_cell n x0 x1 σ = some r) : tw_Met l B D C S yX12_cell cX12_cell 3 (some .int) ({ frames := 9, cells := 0, slots := 0, locals := 215 } : Room) [.ref (B + 442), .int x0, .int x1] σ (some (.int r.1)) r.2 := by
  refine tw_metOfP (tw_P_X12_cell n x0 x1 σ) r h (fun r => (some (.int r.1), r.2)) (by decide +kernel) (Nat.le_of_ble_eq_true rfl) ⟨rfl, rfl⟩ ?_
  intro z el eB eD eC eS hfr hlo hcs X hret hQ
  subst el eB eD eC eS
  have X : tw_X z cX12_cell "TreasureWalkModel" 3 := X
  show tw_Rf z r _ σ 0 [(0, .ref (tw_zB z + 442)), (1, .int x0), (2, .int x1)] []
  unfold tw_P_X12_cell
  refine r_aload_n X dX12_cell_0 rfl 0 rfl ?_
  refine r_iconst X dX12_cell_1 (v := (0 : Int32)) (by decide) ?_
  refine tw_s12_0 (k := 442) X dX12_cell_2 _ tw_w1252 tw_kc442 (fun σ1 => ?_)
  refine r_aload_n X dX12_cell_5 rfl 0 rfl ?_
  refine r_iload_n X dX12_cell_6 rfl 1 rfl ?_
  refine r_iload_n X dX12_cell_7 rfl 2 rfl ?_
  refine r_bd (fun r2 hr2 => ?_)
  refine tw_c_X12_noCell X dX12_cell_8 _ tw_w1596  hr2 (tw_le hfr rfl) (tw_le hlo rfl) hcs (Nat.le_of_ble_eq_true rfl) trivial ?_
  refine r_jn (α := Int32 × tw_Sg) (σJ := fun a3 => a3.2) (pcJ := 28) (LJ := fun a3 => []) (stJ := fun a3 => [.int a3.1]) (ok := fun a3 => True) (fun a3 hoka3 => ?_) (fun j4 hj4 => ?_)
  ·
    exact r_iret X dX12_cell_28 hret hQ rfl
  refine r_if_eq X dX12_cell_11 (tgt := 18) (by decide) ?_ ?_
  ·
    refine r_aload_n X dX12_cell_18 rfl 0 rfl ?_
    refine r_aload_n X dX12_cell_19 rfl 0 rfl ?_
    refine r_iload_n X dX12_cell_20 rfl 1 rfl ?_
    refine r_iload_n X dX12_cell_21 rfl 2 rfl ?_
    refine r_bd (fun r5 hr5 => ?_)
    refine tw_c_X12_cellAt X dX12_cell_22 _ tw_w1576  hr5 (tw_le hfr rfl) (tw_le hlo rfl) hcs (Nat.le_of_ble_eq_true rfl) trivial ?_
    refine r_bd (fun r6 hr6 => ?_)
    refine tw_c_X12_toldCell X dX12_cell_25 _ tw_w1600  hr6 (tw_le hfr rfl) (tw_le hlo rfl) hcs (Nat.le_of_ble_eq_true rfl) trivial ?_
    exact tw_Rf.sub [] rfl (hj4 (r6.1, r6.2) trivial)
  ·
    refine r_iconst X dX12_cell_14 (v := (0 : Int32)) (by decide) ?_
    refine r_goto X dX12_cell_15 (tgt := 28) (by decide) ?_
    exact tw_Rf.sub [] rfl (hj4 ((0 : Int32), r2.2) trivial)
theorem tw_c_X12_cell {ρ : Type} {z : tw_Z} {cc : ByteArray} {own : String} {nL pc : Nat} {σ : tw_Sg} {L : List (Nat × Value)} {st : List Value} {ix : Nat} {n : Nat} {x0 : Int32} {x1 : Int32} (X : tw_X z cc own nL) (d : decode cc pc = .ok (.invokevirtual ix, 3)) (i : Nat) (hi : lw_tbl[i]? = some (.methodLink own ix yX12_cell))  {res : ρ} {E : Option ρ} {r : Int32 × tw_Sg} (h : tw_P_X12_cell n x0 x1 σ = some r) (h1 : 10 ≤ (tw_zR z).frames) (h2 : 237 ≤ (tw_zR z).locals) (hcs : tw_zcells z ≤ (tw_zR z).cells ∧ tw_zslots z ≤ (tw_zR z).slots) (hst : (st.map fun v => v.category).sum ≤ 8) (_ : True) (kk : tw_Rf z res E r.2 (pc + 3) L (.int r.1 :: st)) : tw_Rf z res E σ pc L (.int x1 :: .int x0 :: .ref (tw_zB z + 442) :: st) := r_callV (As := [.int x0, .int x1]) X d (tw_m_X12_cell  h) tw_y_X12_cell tw_v_X12_cell i hi rfl (tw_kd_lt tw_kc442 (by decide)) (tw_E12 tw_kc442) rfl ⟨rfl, rfl, h1, h2⟩ hcs hst rfl kk
def tw_P_X12_pace (n : Nat) (x0 : Int32) (x1 : Int32) (x2 : Int32) (σ : tw_Sg) : Option (Int32 × tw_Sg) :=
tw_lt (tw_up σ 442 0 (0 : Int32)) (fun (σ1 : tw_Sg) =>
tw_bd (tw_P_X12_noCell x0 x1 σ1) (fun r2 =>
tw_jn (fun (a3 : Int32 × tw_Sg) =>
some (a3.1, a3.2)) (fun (j4 : (Int32 × tw_Sg) → Option (Int32 × tw_Sg)) =>
tw_jn (fun (a5 : tw_Sg) =>
j4 ((0 : Int32), a5)) (fun (j6 : (tw_Sg) → Option (Int32 × tw_Sg)) =>
if ¬ r2.1 = 0 then (j6 r2.2)
else (tw_bd (tw_P_X12_in x2 (0 : Int32) (7 : Int32) r2.2) (fun r7 =>
tw_jn (fun (a8 : Int32) =>
tw_bd (tw_P_X12_fails a8 (2 : Int32) r2.2) (fun r10 =>
if r10.1 = 0 then (tw_bd (tw_P_X12_cellAt x0 x1 r10.2) (fun r11 =>
tw_bd (tw_P_X12_step n r11 x2 r10.2) (fun r12 =>
j4 (r12, r10.2))))
else (j6 r10.2))) (fun (j9 : (Int32) → Option (Int32 × tw_Sg)) =>
if ¬ r7 = 0 then (j9 (0 : Int32))
else (j9 (1 : Int32)))))))))
theorem tw_y_X12_pace : tw_My yX12_pace cX12_pace 4 (some .int) 3 := ⟨List.mem_of_getElem? tw_w1607, List.mem_of_getElem? tw_w101, by decide +kernel, by decide +kernel, by decide +kernel⟩
theorem tw_v_X12_pace : tw_Mv yX12_pace "TreasureWalkModel" := ⟨List.mem_of_getElem? tw_w1605, List.mem_of_getElem? tw_w1606, rfl⟩
set_option maxRecDepth 100000 in
set_option maxHeartbeats 4000000 in
theorem tw_m_X12_pace {l : Launch} {B : Nat} {D : va_G} {C : Nat → ClassId} {S : Nat → Nat} {n : Nat} {x0 : Int32} {x1 : Int32} {x2 : Int32} {σ : tw_Sg}  {r : Int32 × tw_Sg} (h : tw_P_X12_pace n x0 x1 x2 σ = some r) : tw_Met l B D C S yX12_pace cX12_pace 4 (some .int) ({ frames := 3, cells := 0, slots := 0, locals := 73 } : Room) [.ref (B + 442), .int x0, .int x1, .int x2] σ (some (.int r.1)) r.2 := by
  refine tw_metOfP (tw_P_X12_pace n x0 x1 x2 σ) r h (fun r => (some (.int r.1), r.2)) (by decide +kernel) (Nat.le_of_ble_eq_true rfl) ⟨rfl, rfl⟩ ?_
  intro z el eB eD eC eS hfr hlo hcs X hret hQ
  subst el eB eD eC eS
  have X : tw_X z cX12_pace "TreasureWalkModel" 4 := X
  show tw_Rf z r _ σ 0 [(0, .ref (tw_zB z + 442)), (1, .int x0), (2, .int x1), (3, .int x2)] []
  unfold tw_P_X12_pace
  refine r_aload_n X dX12_pace_0 rfl 0 rfl ?_
  refine r_iconst X dX12_pace_1 (v := (0 : Int32)) (by decide) ?_
  refine tw_s12_0 (k := 442) X dX12_pace_2 _ tw_w1252 tw_kc442 (fun σ1 => ?_)
  refine r_aload_n X dX12_pace_5 rfl 0 rfl ?_
  refine r_iload_n X dX12_pace_6 rfl 1 rfl ?_
  refine r_iload_n X dX12_pace_7 rfl 2 rfl ?_
  refine r_bd (fun r2 hr2 => ?_)
  refine tw_c_X12_noCell X dX12_pace_8 _ tw_w1596  hr2 (tw_le hfr rfl) (tw_le hlo rfl) hcs (Nat.le_of_ble_eq_true rfl) trivial ?_
  refine r_jn (α := Int32 × tw_Sg) (σJ := fun a3 => a3.2) (pcJ := 52) (LJ := fun a3 => []) (stJ := fun a3 => [.int a3.1]) (ok := fun a3 => True) (fun a3 hoka3 => ?_) (fun j4 hj4 => ?_)
  ·
    exact r_iret X dX12_pace_52 hret hQ rfl
  refine r_jn (α := tw_Sg) (σJ := fun a5 => a5) (pcJ := 37) (LJ := fun a5 => []) (stJ := fun a5 => []) (ok := fun a5 => True) (fun a5 hoka5 => ?_) (fun j6 hj6 => ?_)
  ·
    refine r_iconst X dX12_pace_37 (v := (0 : Int32)) (by decide) ?_
    refine r_goto X dX12_pace_38 (tgt := 52) (by decide) ?_
    exact hj4 ((0 : Int32), a5) trivial
  refine r_if_ne X dX12_pace_11 (tgt := 37) (by decide) ?_ ?_
  ·
    exact tw_Rf.sub [] rfl (hj6 r2.2 trivial)
  ·
    refine r_aload_n X dX12_pace_14 rfl 0 rfl ?_
    refine r_iload_n X dX12_pace_15 rfl 3 rfl ?_
    refine r_iconst X dX12_pace_16 (v := (0 : Int32)) (by decide) ?_
    refine r_bipush X dX12_pace_17 (v := (7 : Int32)) (by decide) ?_
    refine r_bd (fun r7 hr7 => ?_)
    refine tw_c_X12_in X dX12_pace_19 _ tw_w1359  hr7 (tw_le hfr rfl) (tw_le hlo rfl) hcs (Nat.le_of_ble_eq_true rfl) trivial ?_
    refine r_jn (α := Int32) (σJ := fun a8 => r2.2) (pcJ := 30) (LJ := fun a8 => [(0, .ref (tw_zB z + 442)), (1, .int x0), (2, .int x1), (3, .int x2)]) (stJ := fun a8 => [.int a8, .ref (tw_zB z + 442)]) (ok := fun a8 => True) (fun a8 hoka8 => ?_) (fun j9 hj9 => ?_)
    ·
      refine r_iconst X dX12_pace_30 (v := (2 : Int32)) (by decide) ?_
      refine r_bd (fun r10 hr10 => ?_)
      refine tw_c_X12_fails X dX12_pace_31 _ tw_w1362  hr10 (tw_le hfr rfl) (tw_le hlo rfl) hcs (Nat.le_of_ble_eq_true rfl) trivial ?_
      refine r_if_eq X dX12_pace_34 (tgt := 41) (by decide) ?_ ?_
      ·
        refine r_aload_n X dX12_pace_41 rfl 0 rfl ?_
        refine r_aload_n X dX12_pace_42 rfl 0 rfl ?_
        refine r_iload_n X dX12_pace_43 rfl 1 rfl ?_
        refine r_iload_n X dX12_pace_44 rfl 2 rfl ?_
        refine r_bd (fun r11 hr11 => ?_)
        refine tw_c_X12_cellAt X dX12_pace_45 _ tw_w1576  hr11 (tw_le hfr rfl) (tw_le hlo rfl) hcs (Nat.le_of_ble_eq_true rfl) trivial ?_
        refine r_iload_n X dX12_pace_48 rfl 3 rfl ?_
        refine r_bd (fun r12 hr12 => ?_)
        refine tw_c_X12_step X dX12_pace_49 _ tw_w1562  hr12 (tw_le hfr rfl) (tw_le hlo rfl) hcs (Nat.le_of_ble_eq_true rfl) trivial ?_
        exact tw_Rf.sub [] rfl (hj4 (r12, r10.2) trivial)
      ·
        exact tw_Rf.sub [] rfl (hj6 r10.2 trivial)
    refine r_if_ne X dX12_pace_22 (tgt := 29) (by decide) ?_ ?_
    ·
      refine r_iconst X dX12_pace_29 (v := (0 : Int32)) (by decide) ?_
      exact hj9 (0 : Int32) trivial
    ·
      refine r_iconst X dX12_pace_25 (v := (1 : Int32)) (by decide) ?_
      refine r_goto X dX12_pace_26 (tgt := 30) (by decide) ?_
      exact hj9 (1 : Int32) trivial
theorem tw_c_X12_pace {ρ : Type} {z : tw_Z} {cc : ByteArray} {own : String} {nL pc : Nat} {σ : tw_Sg} {L : List (Nat × Value)} {st : List Value} {ix : Nat} {n : Nat} {x0 : Int32} {x1 : Int32} {x2 : Int32} (X : tw_X z cc own nL) (d : decode cc pc = .ok (.invokevirtual ix, 3)) (i : Nat) (hi : lw_tbl[i]? = some (.methodLink own ix yX12_pace))  {res : ρ} {E : Option ρ} {r : Int32 × tw_Sg} (h : tw_P_X12_pace n x0 x1 x2 σ = some r) (h1 : 4 ≤ (tw_zR z).frames) (h2 : 96 ≤ (tw_zR z).locals) (hcs : tw_zcells z ≤ (tw_zR z).cells ∧ tw_zslots z ≤ (tw_zR z).slots) (hst : (st.map fun v => v.category).sum ≤ 8) (_ : True) (kk : tw_Rf z res E r.2 (pc + 3) L (.int r.1 :: st)) : tw_Rf z res E σ pc L (.int x2 :: .int x1 :: .int x0 :: .ref (tw_zB z + 442) :: st) := r_callV (As := [.int x0, .int x1, .int x2]) X d (tw_m_X12_pace  h) tw_y_X12_pace tw_v_X12_pace i hi rfl (tw_kd_lt tw_kc442 (by decide)) (tw_E12 tw_kc442) rfl ⟨rfl, rfl, h1, h2⟩ hcs hst rfl kk
def tw_P_X12_reachedBy (n : Nat) (x0 : Int32) (x1 : Int32) (σ : tw_Sg) : Option (Int32 × tw_Sg) :=
tw_bd (tw_P_X12_lay n σ) (fun r1 =>
tw_lt (0 : Int32) (fun (v2 : Int32) =>
tw_lt (0 : Int32) (fun (v3 : Int32) =>
tw_lp (fun (k5 : (Int32 × Int32) → Option (Int32 × tw_Sg)) (a4 : Int32 × Int32) =>
tw_bd (tw_P_X12_cells r1) (fun r6 =>
if r6 ≤ a4.2 then (some (a4.1, r1))
else (tw_ck (tw_ok x0 (tw_ln 457)) (
tw_ck (tw_ok x1 (tw_ln (457 + 1 + 10 * Int32.toNatClampNeg x0))) (
tw_ck (tw_ok a4.2 (tw_ln ((457 + 1 + 10 * Int32.toNatClampNeg x0) + 1 + 1 * Int32.toNatClampNeg x1))) (
tw_jn (fun (a9 : Int32) =>
tw_lt (a4.1 + a9) (fun (v11 : Int32) =>
tw_lt (a4.2 + (1 : Int32)) (fun (v12 : Int32) =>
k5 (v11, v12)))) (fun (j10 : (Int32) → Option (Int32 × tw_Sg)) =>
if (r1 ((457 + 1 + 10 * Int32.toNatClampNeg x0) + 1 + 1 * Int32.toNatClampNeg x1) (Int32.toNatClampNeg a4.2)) = 0 then (j10 (0 : Int32))
else (j10 (1 : Int32))))))))) n (v2, v3))))
theorem tw_y_X12_reachedBy : tw_My yX12_reachedBy cX12_reachedBy 5 (some .int) 2 := ⟨List.mem_of_getElem? tw_w1619, List.mem_of_getElem? tw_w101, by decide +kernel, by decide +kernel, by decide +kernel⟩
theorem tw_v_X12_reachedBy : tw_Mv yX12_reachedBy "TreasureWalkModel" := ⟨List.mem_of_getElem? tw_w1618, List.mem_of_getElem? tw_w82, rfl⟩
set_option maxRecDepth 100000 in
set_option maxHeartbeats 4000000 in
theorem tw_m_X12_reachedBy {l : Launch} {B : Nat} {D : va_G} {C : Nat → ClassId} {S : Nat → Nat} {n : Nat} {x0 : Int32} {x1 : Int32} {σ : tw_Sg}  {r : Int32 × tw_Sg} (h : tw_P_X12_reachedBy n x0 x1 σ = some r) : tw_Met l B D C S yX12_reachedBy cX12_reachedBy 5 (some .int) ({ frames := 6, cells := 0, slots := 0, locals := 151 } : Room) [.ref (B + 442), .int x0, .int x1] σ (some (.int r.1)) r.2 := by
  refine tw_metOfP (tw_P_X12_reachedBy n x0 x1 σ) r h (fun r => (some (.int r.1), r.2)) (by decide +kernel) (Nat.le_of_ble_eq_true rfl) ⟨rfl, rfl⟩ ?_
  intro z el eB eD eC eS hfr hlo hcs X hret hQ
  subst el eB eD eC eS
  have X : tw_X z cX12_reachedBy "TreasureWalkModel" 5 := X
  show tw_Rf z r _ σ 0 [(0, .ref (tw_zB z + 442)), (1, .int x0), (2, .int x1)] []
  unfold tw_P_X12_reachedBy
  refine r_aload_n X dX12_reachedBy_0 rfl 0 rfl ?_
  refine r_bd (fun r1 hr1 => ?_)
  refine tw_c_X12_lay X dX12_reachedBy_1 _ tw_w1539  hr1 (tw_le hfr rfl) (tw_le hlo rfl) hcs (Nat.le_of_ble_eq_true rfl) trivial ?_
  refine r_iconst X dX12_reachedBy_4 (v := (0 : Int32)) (by decide) ?_
  refine r_istore_n X dX12_reachedBy_5 rfl (by decide) (LL := fun v2 => [(3, .int v2), (0, .ref (tw_zB z + 442)), (1, .int x0), (2, .int x1)]) (fun _ => rfl) (fun v2 => ?_)
  refine r_iconst X dX12_reachedBy_6 (v := (0 : Int32)) (by decide) ?_
  refine r_istore X dX12_reachedBy_7 (by decide) (LL := fun v3 => [(4, .int v3), (3, .int v2), (0, .ref (tw_zB z + 442)), (1, .int x0), (2, .int x1)]) (fun _ => rfl) (fun v3 => ?_)
  refine r_lp (α := Int32 × Int32) (σJ := fun a4 => r1) (pcJ := 9) (LJ := fun a4 => [(4, .int a4.2), (3, .int a4.1), (0, .ref (tw_zB z + 442)), (1, .int x0), (2, .int x1)]) (stJ := fun a4 => []) (fun k5 hk5 a4 => ?_) n (v2, v3)
  refine r_iload X dX12_reachedBy_9 0 rfl ?_
  refine r_aload_n X dX12_reachedBy_11 rfl 2 rfl ?_
  refine r_bd (fun r6 hr6 => ?_)
  refine tw_c_X12_cells X dX12_reachedBy_12 _ tw_w1523  hr6 (tw_le hfr rfl) (tw_le hlo rfl) hcs (Nat.le_of_ble_eq_true rfl) trivial ?_
  refine r_icmp_ge X dX12_reachedBy_15 (tgt := 46) (by decide) ?_ ?_
  ·
    refine r_iload_n X dX12_reachedBy_46 rfl 1 rfl ?_
    exact r_iret X dX12_reachedBy_47 hret hQ rfl
  ·
    refine r_iload_n X dX12_reachedBy_18 rfl 1 rfl ?_
    refine r_aload_n X dX12_reachedBy_19 rfl 2 rfl ?_
    refine tw_g12_21 (k := 442) (v := .ref (tw_zB z + 457)) X dX12_reachedBy_20 _ tw_w1273 tw_kc442 rfl ?_
    refine r_iload_n X dX12_reachedBy_23 rfl 3 rfl ?_
    refine r_aald (k := 457) (r := 457 + 1 + 10 * Int32.toNatClampNeg x0) X dX12_reachedBy_24 (tw_kd_lt tw_kc457 (by decide)) (tw_E19 tw_kc457) rfl rfl rfl (fun h7 => ?_)
    refine r_iload_n X dX12_reachedBy_25 rfl 4 rfl ?_
    refine r_aald (k := (457 + 1 + 10 * Int32.toNatClampNeg x0)) (r := (457 + 1 + 10 * Int32.toNatClampNeg x0) + 1 + 1 * Int32.toNatClampNeg x1) X dX12_reachedBy_26 (tw_kd_lt (tw_ke19 tw_kc457 (tw_ok_lt h7)) (by decide)) (tw_E18 (tw_ke19 tw_kc457 (tw_ok_lt h7))) rfl rfl rfl (fun h8 => ?_)
    refine r_iload X dX12_reachedBy_27 0 rfl ?_
    refine r_zald (k := ((457 + 1 + 10 * Int32.toNatClampNeg x0) + 1 + 1 * Int32.toNatClampNeg x1)) X dX12_reachedBy_29 (tw_ke18 (tw_ke19 tw_kc457 (tw_ok_lt h7)) (tw_ok_lt h8)) ?_
    refine r_jn (α := Int32) (σJ := fun a9 => r1) (pcJ := 38) (LJ := fun a9 => [(4, .int a4.2), (0, .ref (tw_zB z + 442)), (1, .int x0), (2, .int x1)]) (stJ := fun a9 => [.int a9, .int a4.1]) (ok := fun a9 => True) (fun a9 hoka9 => ?_) (fun j10 hj10 => ?_)
    ·
      refine r_iadd X dX12_reachedBy_38 ?_
      refine r_istore_n X dX12_reachedBy_39 rfl (by decide) (LL := fun v11 => [(3, .int v11), (4, .int a4.2), (0, .ref (tw_zB z + 442)), (1, .int x0), (2, .int x1)]) (fun _ => rfl) (fun v11 => ?_)
      refine r_iinc X dX12_reachedBy_40 1 rfl (v := (1 : Int32)) (by decide) (by decide) (LL := fun v12 => [(4, .int v12), (3, .int v11), (0, .ref (tw_zB z + 442)), (1, .int x0), (2, .int x1)]) (fun _ => rfl) (fun v12 => ?_)
      refine r_goto X dX12_reachedBy_43 (tgt := 9) (by decide) ?_
      exact hk5 (v11, v12)
    refine r_if_eq X dX12_reachedBy_30 (tgt := 37) (by decide) ?_ ?_
    ·
      refine r_iconst X dX12_reachedBy_37 (v := (0 : Int32)) (by decide) ?_
      exact tw_Rf.sub [0, 2, 3, 4] rfl (hj10 (0 : Int32) trivial)
    ·
      refine r_iconst X dX12_reachedBy_33 (v := (1 : Int32)) (by decide) ?_
      refine r_goto X dX12_reachedBy_34 (tgt := 38) (by decide) ?_
      exact tw_Rf.sub [0, 2, 3, 4] rfl (hj10 (1 : Int32) trivial)
theorem tw_c_X12_reachedBy {ρ : Type} {z : tw_Z} {cc : ByteArray} {own : String} {nL pc : Nat} {σ : tw_Sg} {L : List (Nat × Value)} {st : List Value} {ix : Nat} {n : Nat} {x0 : Int32} {x1 : Int32} (X : tw_X z cc own nL) (d : decode cc pc = .ok (.invokevirtual ix, 3)) (i : Nat) (hi : lw_tbl[i]? = some (.methodLink own ix yX12_reachedBy))  {res : ρ} {E : Option ρ} {r : Int32 × tw_Sg} (h : tw_P_X12_reachedBy n x0 x1 σ = some r) (h1 : 7 ≤ (tw_zR z).frames) (h2 : 175 ≤ (tw_zR z).locals) (hcs : tw_zcells z ≤ (tw_zR z).cells ∧ tw_zslots z ≤ (tw_zR z).slots) (hst : (st.map fun v => v.category).sum ≤ 8) (_ : True) (kk : tw_Rf z res E r.2 (pc + 3) L (.int r.1 :: st)) : tw_Rf z res E σ pc L (.int x1 :: .int x0 :: .ref (tw_zB z + 442) :: st) := r_callV (As := [.int x0, .int x1]) X d (tw_m_X12_reachedBy  h) tw_y_X12_reachedBy tw_v_X12_reachedBy i hi rfl (tw_kd_lt tw_kc442 (by decide)) (tw_E12 tw_kc442) rfl ⟨rfl, rfl, h1, h2⟩ hcs hst rfl kk
def tw_P_X12_reached (n : Nat) (x0 : Int32) (x1 : Int32) (σ : tw_Sg) : Option (Int32 × tw_Sg) :=
tw_lt (tw_up σ 442 0 (0 : Int32)) (fun (σ1 : tw_Sg) =>
tw_bd (tw_P_X12_noClue x0 σ1) (fun r2 =>
tw_jn (fun (a3 : Int32 × tw_Sg) =>
some (a3.1, a3.2)) (fun (j4 : (Int32 × tw_Sg) → Option (Int32 × tw_Sg)) =>
tw_jn (fun (a5 : tw_Sg) =>
j4 ((0 : Int32), a5)) (fun (j6 : (tw_Sg) → Option (Int32 × tw_Sg)) =>
if ¬ r2.1 = 0 then (j6 r2.2)
else (tw_bd (tw_P_X12_legs x0 r2.2) (fun r7 =>
tw_bd (tw_P_X12_in x1 (0 : Int32) r7 r2.2) (fun r8 =>
tw_jn (fun (a9 : Int32) =>
tw_bd (tw_P_X12_fails a9 (2 : Int32) r2.2) (fun r11 =>
if r11.1 = 0 then (tw_bd (tw_P_X12_reachedBy n x0 x1 r11.2) (fun r12 =>
j4 (r12.1, r12.2)))
else (j6 r11.2))) (fun (j10 : (Int32) → Option (Int32 × tw_Sg)) =>
if ¬ r8 = 0 then (j10 (0 : Int32))
else (j10 (1 : Int32))))))))))
theorem tw_y_X12_reached : tw_My yX12_reached cX12_reached 3 (some .int) 2 := ⟨List.mem_of_getElem? tw_w1611, List.mem_of_getElem? tw_w101, by decide +kernel, by decide +kernel, by decide +kernel⟩
theorem tw_v_X12_reached : tw_Mv yX12_reached "TreasureWalkModel" := ⟨List.mem_of_getElem? tw_w1609, List.mem_of_getElem? tw_w1610, rfl⟩
set_option maxRecDepth 100000 in
set_option maxHeartbeats 4000000 in
theorem tw_m_X12_reached {l : Launch} {B : Nat} {D : va_G} {C : Nat → ClassId} {S : Nat → Nat} {n : Nat} {x0 : Int32} {x1 : Int32} {σ : tw_Sg}  {r : Int32 × tw_Sg} (h : tw_P_X12_reached n x0 x1 σ = some r) : tw_Met l B D C S yX12_reached cX12_reached 3 (some .int) ({ frames := 7, cells := 0, slots := 0, locals := 175 } : Room) [.ref (B + 442), .int x0, .int x1] σ (some (.int r.1)) r.2 := by
  refine tw_metOfP (tw_P_X12_reached n x0 x1 σ) r h (fun r => (some (.int r.1), r.2)) (by decide +kernel) (Nat.le_of_ble_eq_true rfl) ⟨rfl, rfl⟩ ?_
  intro z el eB eD eC eS hfr hlo hcs X hret hQ
  subst el eB eD eC eS
  have X : tw_X z cX12_reached "TreasureWalkModel" 3 := X
  show tw_Rf z r _ σ 0 [(0, .ref (tw_zB z + 442)), (1, .int x0), (2, .int x1)] []
  unfold tw_P_X12_reached
  refine r_aload_n X dX12_reached_0 rfl 0 rfl ?_
  refine r_iconst X dX12_reached_1 (v := (0 : Int32)) (by decide) ?_
  refine tw_s12_0 (k := 442) X dX12_reached_2 _ tw_w1252 tw_kc442 (fun σ1 => ?_)
  refine r_aload_n X dX12_reached_5 rfl 0 rfl ?_
  refine r_iload_n X dX12_reached_6 rfl 1 rfl ?_
  refine r_bd (fun r2 hr2 => ?_)
  refine tw_c_X12_noClue X dX12_reached_7 _ tw_w1612  hr2 (tw_le hfr rfl) (tw_le hlo rfl) hcs (Nat.le_of_ble_eq_true rfl) trivial ?_
  refine r_jn (α := Int32 × tw_Sg) (σJ := fun a3 => a3.2) (pcJ := 49) (LJ := fun a3 => []) (stJ := fun a3 => [.int a3.1]) (ok := fun a3 => True) (fun a3 hoka3 => ?_) (fun j4 hj4 => ?_)
  ·
    exact r_iret X dX12_reached_49 hret hQ rfl
  refine r_jn (α := tw_Sg) (σJ := fun a5 => a5) (pcJ := 39) (LJ := fun a5 => []) (stJ := fun a5 => []) (ok := fun a5 => True) (fun a5 hoka5 => ?_) (fun j6 hj6 => ?_)
  ·
    refine r_iconst X dX12_reached_39 (v := (0 : Int32)) (by decide) ?_
    refine r_goto X dX12_reached_40 (tgt := 49) (by decide) ?_
    exact hj4 ((0 : Int32), a5) trivial
  refine r_if_ne X dX12_reached_10 (tgt := 39) (by decide) ?_ ?_
  ·
    exact tw_Rf.sub [] rfl (hj6 r2.2 trivial)
  ·
    refine r_aload_n X dX12_reached_13 rfl 0 rfl ?_
    refine r_iload_n X dX12_reached_14 rfl 2 rfl ?_
    refine r_iconst X dX12_reached_15 (v := (0 : Int32)) (by decide) ?_
    refine r_aload_n X dX12_reached_16 rfl 0 rfl ?_
    refine r_iload_n X dX12_reached_17 rfl 1 rfl ?_
    refine r_bd (fun r7 hr7 => ?_)
    refine tw_c_X12_legs X dX12_reached_18 _ tw_w1543  hr7 (tw_le hfr rfl) (tw_le hlo rfl) hcs (Nat.le_of_ble_eq_true rfl) trivial ?_
    refine r_bd (fun r8 hr8 => ?_)
    refine tw_c_X12_in X dX12_reached_21 _ tw_w1359  hr8 (tw_le hfr rfl) (tw_le hlo rfl) hcs (Nat.le_of_ble_eq_true rfl) trivial ?_
    refine r_jn (α := Int32) (σJ := fun a9 => r2.2) (pcJ := 32) (LJ := fun a9 => [(0, .ref (tw_zB z + 442)), (1, .int x0), (2, .int x1)]) (stJ := fun a9 => [.int a9, .ref (tw_zB z + 442)]) (ok := fun a9 => True) (fun a9 hoka9 => ?_) (fun j10 hj10 => ?_)
    ·
      refine r_iconst X dX12_reached_32 (v := (2 : Int32)) (by decide) ?_
      refine r_bd (fun r11 hr11 => ?_)
      refine tw_c_X12_fails X dX12_reached_33 _ tw_w1362  hr11 (tw_le hfr rfl) (tw_le hlo rfl) hcs (Nat.le_of_ble_eq_true rfl) trivial ?_
      refine r_if_eq X dX12_reached_36 (tgt := 43) (by decide) ?_ ?_
      ·
        refine r_aload_n X dX12_reached_43 rfl 0 rfl ?_
        refine r_iload_n X dX12_reached_44 rfl 1 rfl ?_
        refine r_iload_n X dX12_reached_45 rfl 2 rfl ?_
        refine r_bd (fun r12 hr12 => ?_)
        refine tw_c_X12_reachedBy X dX12_reached_46 _ tw_w1616  hr12 (tw_le hfr rfl) (tw_le hlo rfl) hcs (Nat.le_of_ble_eq_true rfl) trivial ?_
        exact tw_Rf.sub [] rfl (hj4 (r12.1, r12.2) trivial)
      ·
        exact tw_Rf.sub [] rfl (hj6 r11.2 trivial)
    refine r_if_ne X dX12_reached_24 (tgt := 31) (by decide) ?_ ?_
    ·
      refine r_iconst X dX12_reached_31 (v := (0 : Int32)) (by decide) ?_
      exact hj10 (0 : Int32) trivial
    ·
      refine r_iconst X dX12_reached_27 (v := (1 : Int32)) (by decide) ?_
      refine r_goto X dX12_reached_28 (tgt := 32) (by decide) ?_
      exact hj10 (1 : Int32) trivial
theorem tw_c_X12_reached {ρ : Type} {z : tw_Z} {cc : ByteArray} {own : String} {nL pc : Nat} {σ : tw_Sg} {L : List (Nat × Value)} {st : List Value} {ix : Nat} {n : Nat} {x0 : Int32} {x1 : Int32} (X : tw_X z cc own nL) (d : decode cc pc = .ok (.invokevirtual ix, 3)) (i : Nat) (hi : lw_tbl[i]? = some (.methodLink own ix yX12_reached))  {res : ρ} {E : Option ρ} {r : Int32 × tw_Sg} (h : tw_P_X12_reached n x0 x1 σ = some r) (h1 : 8 ≤ (tw_zR z).frames) (h2 : 197 ≤ (tw_zR z).locals) (hcs : tw_zcells z ≤ (tw_zR z).cells ∧ tw_zslots z ≤ (tw_zR z).slots) (hst : (st.map fun v => v.category).sum ≤ 8) (_ : True) (kk : tw_Rf z res E r.2 (pc + 3) L (.int r.1 :: st)) : tw_Rf z res E σ pc L (.int x1 :: .int x0 :: .ref (tw_zB z + 442) :: st) := r_callV (As := [.int x0, .int x1]) X d (tw_m_X12_reached  h) tw_y_X12_reached tw_v_X12_reached i hi rfl (tw_kd_lt tw_kc442 (by decide)) (tw_E12 tw_kc442) rfl ⟨rfl, rfl, h1, h2⟩ hcs hst rfl kk
def tw_P_X12_ends (n : Nat) (x0 : Int32) (x1 : Int32) (x2 : Int32) (σ : tw_Sg) : Option (Int32 × tw_Sg) :=
tw_lt (tw_up σ 442 0 (0 : Int32)) (fun (σ1 : tw_Sg) =>
tw_bd (tw_P_X12_noClue x0 σ1) (fun r2 =>
tw_jn (fun (a3 : tw_Sg) =>
tw_ck (tw_01 (0 : Int32)) (some ((0 : Int32), a3))) (fun (j4 : (tw_Sg) → Option (Int32 × tw_Sg)) =>
if ¬ r2.1 = 0 then (j4 r2.2)
else (tw_bd (tw_P_X12_noCell x1 x2 r2.2) (fun r5 =>
if r5.1 = 0 then (tw_bd (tw_P_X12_lay n r5.2) (fun r6 =>
tw_bd (tw_P_X12_cellAt x1 x2 r6) (fun r7 =>
tw_bd (tw_P_X12_isInRegion x0 r7 r6) (fun r8 =>
tw_ck (tw_01 r8) (some (r8, r6))))))
else (j4 r5.2))))))
theorem tw_y_X12_ends : tw_My yX12_ends cX12_ends 4 (some .boolean) 3 := ⟨List.mem_of_getElem? tw_w1623, List.mem_of_getElem? tw_w101, by decide +kernel, by decide +kernel, by decide +kernel⟩
theorem tw_v_X12_ends : tw_Mv yX12_ends "TreasureWalkModel" := ⟨List.mem_of_getElem? tw_w1621, List.mem_of_getElem? tw_w1622, rfl⟩
set_option maxRecDepth 100000 in
set_option maxHeartbeats 4000000 in
theorem tw_m_X12_ends {l : Launch} {B : Nat} {D : va_G} {C : Nat → ClassId} {S : Nat → Nat} {n : Nat} {x0 : Int32} {x1 : Int32} {x2 : Int32} {σ : tw_Sg}  {r : Int32 × tw_Sg} (h : tw_P_X12_ends n x0 x1 x2 σ = some r) : tw_Met l B D C S yX12_ends cX12_ends 4 (some .boolean) ({ frames := 6, cells := 0, slots := 0, locals := 151 } : Room) [.ref (B + 442), .int x0, .int x1, .int x2] σ (some (.int r.1)) r.2 := by
  refine tw_metOfP (tw_P_X12_ends n x0 x1 x2 σ) r h (fun r => (some (.int r.1), r.2)) (by decide +kernel) (Nat.le_of_ble_eq_true rfl) ⟨rfl, rfl⟩ ?_
  intro z el eB eD eC eS hfr hlo hcs X hret hQ
  subst el eB eD eC eS
  have X : tw_X z cX12_ends "TreasureWalkModel" 4 := X
  show tw_Rf z r _ σ 0 [(0, .ref (tw_zB z + 442)), (1, .int x0), (2, .int x1), (3, .int x2)] []
  unfold tw_P_X12_ends
  refine r_aload_n X dX12_ends_0 rfl 0 rfl ?_
  refine r_iconst X dX12_ends_1 (v := (0 : Int32)) (by decide) ?_
  refine tw_s12_0 (k := 442) X dX12_ends_2 _ tw_w1252 tw_kc442 (fun σ1 => ?_)
  refine r_aload_n X dX12_ends_5 rfl 0 rfl ?_
  refine r_iload_n X dX12_ends_6 rfl 1 rfl ?_
  refine r_bd (fun r2 hr2 => ?_)
  refine tw_c_X12_noClue X dX12_ends_7 _ tw_w1612  hr2 (tw_le hfr rfl) (tw_le hlo rfl) hcs (Nat.le_of_ble_eq_true rfl) trivial ?_
  refine r_jn (α := tw_Sg) (σJ := fun a3 => a3) (pcJ := 22) (LJ := fun a3 => []) (stJ := fun a3 => []) (ok := fun a3 => True) (fun a3 hoka3 => ?_) (fun j4 hj4 => ?_)
  ·
    refine r_iconst X dX12_ends_22 (v := (0 : Int32)) (by decide) ?_
    exact r_zret X dX12_ends_23 hret hQ rfl
  refine r_if_ne X dX12_ends_10 (tgt := 22) (by decide) ?_ ?_
  ·
    exact tw_Rf.sub [] rfl (hj4 r2.2 trivial)
  ·
    refine r_aload_n X dX12_ends_13 rfl 0 rfl ?_
    refine r_iload_n X dX12_ends_14 rfl 2 rfl ?_
    refine r_iload_n X dX12_ends_15 rfl 3 rfl ?_
    refine r_bd (fun r5 hr5 => ?_)
    refine tw_c_X12_noCell X dX12_ends_16 _ tw_w1596  hr5 (tw_le hfr rfl) (tw_le hlo rfl) hcs (Nat.le_of_ble_eq_true rfl) trivial ?_
    refine r_if_eq X dX12_ends_19 (tgt := 24) (by decide) ?_ ?_
    ·
      refine r_aload_n X dX12_ends_24 rfl 0 rfl ?_
      refine r_bd (fun r6 hr6 => ?_)
      refine tw_c_X12_lay X dX12_ends_25 _ tw_w1539  hr6 (tw_le hfr rfl) (tw_le hlo rfl) hcs (Nat.le_of_ble_eq_true rfl) trivial ?_
      refine r_aload_n X dX12_ends_28 rfl 0 rfl ?_
      refine r_iload_n X dX12_ends_29 rfl 1 rfl ?_
      refine r_aload_n X dX12_ends_30 rfl 0 rfl ?_
      refine r_iload_n X dX12_ends_31 rfl 2 rfl ?_
      refine r_iload_n X dX12_ends_32 rfl 3 rfl ?_
      refine r_bd (fun r7 hr7 => ?_)
      refine tw_c_X12_cellAt X dX12_ends_33 _ tw_w1576  hr7 (tw_le hfr rfl) (tw_le hlo rfl) hcs (Nat.le_of_ble_eq_true rfl) trivial ?_
      refine r_bd (fun r8 hr8 => ?_)
      refine tw_c_X12_isInRegion X dX12_ends_36 _ tw_w1580  hr8 (tw_le hfr rfl) (tw_le hlo rfl) hcs (Nat.le_of_ble_eq_true rfl) trivial ?_
      exact r_zret X dX12_ends_39 hret hQ rfl
    ·
      exact tw_Rf.sub [] rfl (hj4 r5.2 trivial)
theorem tw_c_X12_ends {ρ : Type} {z : tw_Z} {cc : ByteArray} {own : String} {nL pc : Nat} {σ : tw_Sg} {L : List (Nat × Value)} {st : List Value} {ix : Nat} {n : Nat} {x0 : Int32} {x1 : Int32} {x2 : Int32} (X : tw_X z cc own nL) (d : decode cc pc = .ok (.invokevirtual ix, 3)) (i : Nat) (hi : lw_tbl[i]? = some (.methodLink own ix yX12_ends))  {res : ρ} {E : Option ρ} {r : Int32 × tw_Sg} (h : tw_P_X12_ends n x0 x1 x2 σ = some r) (h1 : 7 ≤ (tw_zR z).frames) (h2 : 174 ≤ (tw_zR z).locals) (hcs : tw_zcells z ≤ (tw_zR z).cells ∧ tw_zslots z ≤ (tw_zR z).slots) (hst : (st.map fun v => v.category).sum ≤ 8) (_ : True) (kk : tw_Rf z res E r.2 (pc + 3) L (.int r.1 :: st)) : tw_Rf z res E σ pc L (.int x2 :: .int x1 :: .int x0 :: .ref (tw_zB z + 442) :: st) := r_callV (As := [.int x0, .int x1, .int x2]) X d (tw_m_X12_ends  h) tw_y_X12_ends tw_v_X12_ends i hi rfl (tw_kd_lt tw_kc442 (by decide)) (tw_E12 tw_kc442) rfl ⟨rfl, rfl, h1, h2⟩ hcs hst rfl kk
def tw_P_X12_why (n : Nat) (x0 : Int32) (x1 : Int32) (σ : tw_Sg) : Option (Int32 × tw_Sg) :=
tw_lt (tw_up σ 442 0 (0 : Int32)) (fun (σ1 : tw_Sg) =>
tw_bd (tw_P_X12_noCell x0 x1 σ1) (fun r2 =>
if r2.1 = 0 then (tw_bd (tw_P_X12_cellAt x0 x1 r2.2) (fun r3 =>
tw_bd (tw_P_X12_isLand r3 r2.2) (fun r4 =>
tw_jn (fun (a5 : Int32 × tw_Sg) =>
some (a5.1, a5.2)) (fun (j6 : (Int32 × tw_Sg) → Option (Int32 × tw_Sg)) =>
if r4 = 0 then (j6 ((-1 : Int32), r2.2))
else (tw_bd (tw_P_X12_cellAt x0 x1 r2.2) (fun r7 =>
tw_bd (tw_P_X12_firstWithout n r7 r2.2) (fun r8 =>
j6 ((r8.1 + (1 : Int32)), r8.2))))))))
else (some ((0 : Int32), r2.2))))
theorem tw_y_X12_why : tw_My yX12_why cX12_why 3 (some .int) 2 := ⟨List.mem_of_getElem? tw_w1627, List.mem_of_getElem? tw_w101, by decide +kernel, by decide +kernel, by decide +kernel⟩
theorem tw_v_X12_why : tw_Mv yX12_why "TreasureWalkModel" := ⟨List.mem_of_getElem? tw_w1625, List.mem_of_getElem? tw_w1626, rfl⟩
set_option maxRecDepth 100000 in
set_option maxHeartbeats 4000000 in
theorem tw_m_X12_why {l : Launch} {B : Nat} {D : va_G} {C : Nat → ClassId} {S : Nat → Nat} {n : Nat} {x0 : Int32} {x1 : Int32} {σ : tw_Sg}  {r : Int32 × tw_Sg} (h : tw_P_X12_why n x0 x1 σ = some r) : tw_Met l B D C S yX12_why cX12_why 3 (some .int) ({ frames := 7, cells := 0, slots := 0, locals := 173 } : Room) [.ref (B + 442), .int x0, .int x1] σ (some (.int r.1)) r.2 := by
  refine tw_metOfP (tw_P_X12_why n x0 x1 σ) r h (fun r => (some (.int r.1), r.2)) (by decide +kernel) (Nat.le_of_ble_eq_true rfl) ⟨rfl, rfl⟩ ?_
  intro z el eB eD eC eS hfr hlo hcs X hret hQ
  subst el eB eD eC eS
  have X : tw_X z cX12_why "TreasureWalkModel" 3 := X
  show tw_Rf z r _ σ 0 [(0, .ref (tw_zB z + 442)), (1, .int x0), (2, .int x1)] []
  unfold tw_P_X12_why
  refine r_aload_n X dX12_why_0 rfl 0 rfl ?_
  refine r_iconst X dX12_why_1 (v := (0 : Int32)) (by decide) ?_
  refine tw_s12_0 (k := 442) X dX12_why_2 _ tw_w1252 tw_kc442 (fun σ1 => ?_)
  refine r_aload_n X dX12_why_5 rfl 0 rfl ?_
  refine r_iload_n X dX12_why_6 rfl 1 rfl ?_
  refine r_iload_n X dX12_why_7 rfl 2 rfl ?_
  refine r_bd (fun r2 hr2 => ?_)
  refine tw_c_X12_noCell X dX12_why_8 _ tw_w1596  hr2 (tw_le hfr rfl) (tw_le hlo rfl) hcs (Nat.le_of_ble_eq_true rfl) trivial ?_
  refine r_if_eq X dX12_why_11 (tgt := 16) (by decide) ?_ ?_
  ·
    refine r_aload_n X dX12_why_16 rfl 0 rfl ?_
    refine r_aload_n X dX12_why_17 rfl 0 rfl ?_
    refine r_iload_n X dX12_why_18 rfl 1 rfl ?_
    refine r_iload_n X dX12_why_19 rfl 2 rfl ?_
    refine r_bd (fun r3 hr3 => ?_)
    refine tw_c_X12_cellAt X dX12_why_20 _ tw_w1576  hr3 (tw_le hfr rfl) (tw_le hlo rfl) hcs (Nat.le_of_ble_eq_true rfl) trivial ?_
    refine r_bd (fun r4 hr4 => ?_)
    refine tw_c_X12_isLand X dX12_why_23 _ tw_w1531  hr4 (tw_le hfr rfl) (tw_le hlo rfl) hcs (Nat.le_of_ble_eq_true rfl) trivial ?_
    refine r_jn (α := Int32 × tw_Sg) (σJ := fun a5 => a5.2) (pcJ := 45) (LJ := fun a5 => []) (stJ := fun a5 => [.int a5.1]) (ok := fun a5 => True) (fun a5 hoka5 => ?_) (fun j6 hj6 => ?_)
    ·
      exact r_iret X dX12_why_45 hret hQ rfl
    refine r_if_eq X dX12_why_26 (tgt := 44) (by decide) ?_ ?_
    ·
      refine r_iconst X dX12_why_44 (v := (-1 : Int32)) (by decide) ?_
      exact tw_Rf.sub [] rfl (hj6 ((-1 : Int32), r2.2) trivial)
    ·
      refine r_aload_n X dX12_why_29 rfl 0 rfl ?_
      refine r_aload_n X dX12_why_30 rfl 0 rfl ?_
      refine r_iload_n X dX12_why_31 rfl 1 rfl ?_
      refine r_iload_n X dX12_why_32 rfl 2 rfl ?_
      refine r_bd (fun r7 hr7 => ?_)
      refine tw_c_X12_cellAt X dX12_why_33 _ tw_w1576  hr7 (tw_le hfr rfl) (tw_le hlo rfl) hcs (Nat.le_of_ble_eq_true rfl) trivial ?_
      refine r_bd (fun r8 hr8 => ?_)
      refine tw_c_X12_firstWithout X dX12_why_36 _ tw_w1535  hr8 (tw_le hfr rfl) (tw_le hlo rfl) hcs (Nat.le_of_ble_eq_true rfl) trivial ?_
      refine r_iconst X dX12_why_39 (v := (1 : Int32)) (by decide) ?_
      refine r_iadd X dX12_why_40 ?_
      refine r_goto X dX12_why_41 (tgt := 45) (by decide) ?_
      exact tw_Rf.sub [] rfl (hj6 ((r8.1 + (1 : Int32)), r8.2) trivial)
  ·
    refine r_iconst X dX12_why_14 (v := (0 : Int32)) (by decide) ?_
    exact r_iret X dX12_why_15 hret hQ rfl
theorem tw_c_X12_why {ρ : Type} {z : tw_Z} {cc : ByteArray} {own : String} {nL pc : Nat} {σ : tw_Sg} {L : List (Nat × Value)} {st : List Value} {ix : Nat} {n : Nat} {x0 : Int32} {x1 : Int32} (X : tw_X z cc own nL) (d : decode cc pc = .ok (.invokevirtual ix, 3)) (i : Nat) (hi : lw_tbl[i]? = some (.methodLink own ix yX12_why))  {res : ρ} {E : Option ρ} {r : Int32 × tw_Sg} (h : tw_P_X12_why n x0 x1 σ = some r) (h1 : 8 ≤ (tw_zR z).frames) (h2 : 195 ≤ (tw_zR z).locals) (hcs : tw_zcells z ≤ (tw_zR z).cells ∧ tw_zslots z ≤ (tw_zR z).slots) (hst : (st.map fun v => v.category).sum ≤ 8) (_ : True) (kk : tw_Rf z res E r.2 (pc + 3) L (.int r.1 :: st)) : tw_Rf z res E σ pc L (.int x1 :: .int x0 :: .ref (tw_zB z + 442) :: st) := r_callV (As := [.int x0, .int x1]) X d (tw_m_X12_why  h) tw_y_X12_why tw_v_X12_why i hi rfl (tw_kd_lt tw_kc442 (by decide)) (tw_E12 tw_kc442) rfl ⟨rfl, rfl, h1, h2⟩ hcs hst rfl kk
def tw_P_X12_walk (n : Nat) (x0 : Int32) (x1 : Int32) (x2 : Int32) (x3 : Int32) (σ : tw_Sg) : Option (Int32 × tw_Sg) :=
tw_lt (tw_up σ 442 0 (0 : Int32)) (fun (σ1 : tw_Sg) =>
tw_bd (tw_P_X12_noClue x0 σ1) (fun r2 =>
tw_jn (fun (a3 : tw_Sg) =>
some ((0 : Int32), a3)) (fun (j4 : (tw_Sg) → Option (Int32 × tw_Sg)) =>
if ¬ r2.1 = 0 then (j4 r2.2)
else (tw_bd (tw_P_X12_noCell x1 x2 r2.2) (fun r5 =>
if ¬ r5.1 = 0 then (j4 r5.2)
else (tw_bd (tw_P_X12_legs x0 r5.2) (fun r6 =>
tw_bd (tw_P_X12_in x3 (0 : Int32) (r6 - (1 : Int32)) r5.2) (fun r7 =>
tw_jn (fun (a8 : Int32) =>
tw_bd (tw_P_X12_fails a8 (1 : Int32) r5.2) (fun r10 =>
if r10.1 = 0 then (tw_bd (tw_P_X12_lay n r10.2) (fun r11 =>
tw_bd (tw_P_X12_cellAt x1 x2 r11) (fun r12 =>
tw_bd (tw_P_X12_isInRegion x0 r12 r11) (fun r13 =>
tw_jn (fun (a14 : Int32) =>
tw_bd (tw_P_X12_fails a14 (2 : Int32) r11) (fun r16 =>
if r16.1 = 0 then (tw_bd (tw_P_X12_cellAt x1 x2 r16.2) (fun r17 =>
tw_bd (tw_P_X12_layLeads n x0 r17 r16.2) (fun r18 =>
tw_lt (0 : Int32) (fun (v19 : Int32) =>
tw_lp (fun (k21 : (Int32) → Option (Int32 × tw_Sg)) (a20 : Int32) =>
tw_ck (tw_ok (0 : Int32) (tw_ln 498)) (
tw_bd (tw_P_X12_startOf x0 a20 r18) (fun r23 =>
tw_ck (tw_ok r23 (tw_ln (498 + 1 + 1 * Int32.toNatClampNeg (0 : Int32)))) (
if ¬ (r18 (498 + 1 + 1 * Int32.toNatClampNeg (0 : Int32)) (Int32.toNatClampNeg r23)) = 0 then (tw_bd (tw_P_X12_startOf x0 a20 r18) (fun r24 =>
tw_lt r24 (fun (v25 : Int32) =>
tw_lt (0 : Int32) (fun (v26 : Int32) =>
tw_lp (fun (k28 : (Int32 × Int32 × tw_Sg) → Option (Int32 × tw_Sg)) (a27 : Int32 × Int32 × tw_Sg) =>
if x3 ≤ a27.2.1 then (tw_bd (tw_P_X12_endOf n x0 x3 a27.1 a27.2.2) (fun r29 =>
tw_ck (tw_ok r29.1 (tw_ln 456)) (
some ((r29.2 456 (Int32.toNatClampNeg r29.1)), r29.2))))
else (tw_bd (tw_P_X12_endOf n x0 a27.2.1 a27.1 a27.2.2) (fun r30 =>
tw_lt r30.1 (fun (v31 : Int32) =>
tw_ck (tw_ok v31 (tw_ln 455)) (
tw_lt (r30.2 455 (Int32.toNatClampNeg v31)) (fun (v32 : Int32) =>
tw_lt (a27.2.1 + (1 : Int32)) (fun (v33 : Int32) =>
k28 (v32, v33, r30.2)))))))) n (v25, v26, r18)))))
else (tw_lt (a20 + (1 : Int32)) (fun (v34 : Int32) =>
k21 v34)))))) n v19))))
else (some ((0 : Int32), r16.2)))) (fun (j15 : (Int32) → Option (Int32 × tw_Sg)) =>
if ¬ r13 = 0 then (j15 (0 : Int32))
else (j15 (1 : Int32)))))))
else (j4 r10.2))) (fun (j9 : (Int32) → Option (Int32 × tw_Sg)) =>
if ¬ r7 = 0 then (j9 (0 : Int32))
else (j9 (1 : Int32)))))))))))
theorem tw_y_X12_walk : tw_My yX12_walk cX12_walk 9 (some .int) 4 := ⟨List.mem_of_getElem? tw_w1631, List.mem_of_getElem? tw_w101, by decide +kernel, by decide +kernel, by decide +kernel⟩
theorem tw_v_X12_walk : tw_Mv yX12_walk "TreasureWalkModel" := ⟨List.mem_of_getElem? tw_w1629, List.mem_of_getElem? tw_w1630, rfl⟩
set_option maxRecDepth 100000 in
set_option maxHeartbeats 4000000 in
theorem tw_m_X12_walk {l : Launch} {B : Nat} {D : va_G} {C : Nat → ClassId} {S : Nat → Nat} {n : Nat} {x0 : Int32} {x1 : Int32} {x2 : Int32} {x3 : Int32} {σ : tw_Sg}  {r : Int32 × tw_Sg} (h : tw_P_X12_walk n x0 x1 x2 x3 σ = some r) : tw_Met l B D C S yX12_walk cX12_walk 9 (some .int) ({ frames := 6, cells := 0, slots := 0, locals := 153 } : Room) [.ref (B + 442), .int x0, .int x1, .int x2, .int x3] σ (some (.int r.1)) r.2 := by
  refine tw_metOfP (tw_P_X12_walk n x0 x1 x2 x3 σ) r h (fun r => (some (.int r.1), r.2)) (by decide +kernel) (Nat.le_of_ble_eq_true rfl) ⟨rfl, rfl⟩ ?_
  intro z el eB eD eC eS hfr hlo hcs X hret hQ
  subst el eB eD eC eS
  have X : tw_X z cX12_walk "TreasureWalkModel" 9 := X
  show tw_Rf z r _ σ 0 [(0, .ref (tw_zB z + 442)), (1, .int x0), (2, .int x1), (3, .int x2), (4, .int x3)] []
  unfold tw_P_X12_walk
  refine r_aload_n X dX12_walk_0 rfl 0 rfl ?_
  refine r_iconst X dX12_walk_1 (v := (0 : Int32)) (by decide) ?_
  refine tw_s12_0 (k := 442) X dX12_walk_2 _ tw_w1252 tw_kc442 (fun σ1 => ?_)
  refine r_aload_n X dX12_walk_5 rfl 0 rfl ?_
  refine r_iload_n X dX12_walk_6 rfl 1 rfl ?_
  refine r_bd (fun r2 hr2 => ?_)
  refine tw_c_X12_noClue X dX12_walk_7 _ tw_w1612  hr2 (tw_le hfr rfl) (tw_le hlo rfl) hcs (Nat.le_of_ble_eq_true rfl) trivial ?_
  refine r_jn (α := tw_Sg) (σJ := fun a3 => a3) (pcJ := 51) (LJ := fun a3 => []) (stJ := fun a3 => []) (ok := fun a3 => True) (fun a3 hoka3 => ?_) (fun j4 hj4 => ?_)
  ·
    refine r_iconst X dX12_walk_51 (v := (0 : Int32)) (by decide) ?_
    exact r_iret X dX12_walk_52 hret hQ rfl
  refine r_if_ne X dX12_walk_10 (tgt := 51) (by decide) ?_ ?_
  ·
    exact tw_Rf.sub [] rfl (hj4 r2.2 trivial)
  ·
    refine r_aload_n X dX12_walk_13 rfl 0 rfl ?_
    refine r_iload_n X dX12_walk_14 rfl 2 rfl ?_
    refine r_iload_n X dX12_walk_15 rfl 3 rfl ?_
    refine r_bd (fun r5 hr5 => ?_)
    refine tw_c_X12_noCell X dX12_walk_16 _ tw_w1596  hr5 (tw_le hfr rfl) (tw_le hlo rfl) hcs (Nat.le_of_ble_eq_true rfl) trivial ?_
    refine r_if_ne X dX12_walk_19 (tgt := 51) (by decide) ?_ ?_
    ·
      exact tw_Rf.sub [] rfl (hj4 r5.2 trivial)
    ·
      refine r_aload_n X dX12_walk_22 rfl 0 rfl ?_
      refine r_iload X dX12_walk_23 4 rfl ?_
      refine r_iconst X dX12_walk_25 (v := (0 : Int32)) (by decide) ?_
      refine r_aload_n X dX12_walk_26 rfl 0 rfl ?_
      refine r_iload_n X dX12_walk_27 rfl 1 rfl ?_
      refine r_bd (fun r6 hr6 => ?_)
      refine tw_c_X12_legs X dX12_walk_28 _ tw_w1543  hr6 (tw_le hfr rfl) (tw_le hlo rfl) hcs (Nat.le_of_ble_eq_true rfl) trivial ?_
      refine r_iconst X dX12_walk_31 (v := (1 : Int32)) (by decide) ?_
      refine r_isub X dX12_walk_32 ?_
      refine r_bd (fun r7 hr7 => ?_)
      refine tw_c_X12_in X dX12_walk_33 _ tw_w1359  hr7 (tw_le hfr rfl) (tw_le hlo rfl) hcs (Nat.le_of_ble_eq_true rfl) trivial ?_
      refine r_jn (α := Int32) (σJ := fun a8 => r5.2) (pcJ := 44) (LJ := fun a8 => [(0, .ref (tw_zB z + 442)), (1, .int x0), (2, .int x1), (3, .int x2), (4, .int x3)]) (stJ := fun a8 => [.int a8, .ref (tw_zB z + 442)]) (ok := fun a8 => True) (fun a8 hoka8 => ?_) (fun j9 hj9 => ?_)
      ·
        refine r_iconst X dX12_walk_44 (v := (1 : Int32)) (by decide) ?_
        refine r_bd (fun r10 hr10 => ?_)
        refine tw_c_X12_fails X dX12_walk_45 _ tw_w1362  hr10 (tw_le hfr rfl) (tw_le hlo rfl) hcs (Nat.le_of_ble_eq_true rfl) trivial ?_
        refine r_if_eq X dX12_walk_48 (tgt := 53) (by decide) ?_ ?_
        ·
          refine r_aload_n X dX12_walk_53 rfl 0 rfl ?_
          refine r_bd (fun r11 hr11 => ?_)
          refine tw_c_X12_lay X dX12_walk_54 _ tw_w1539  hr11 (tw_le hfr rfl) (tw_le hlo rfl) hcs (Nat.le_of_ble_eq_true rfl) trivial ?_
          refine r_aload_n X dX12_walk_57 rfl 0 rfl ?_
          refine r_aload_n X dX12_walk_58 rfl 0 rfl ?_
          refine r_iload_n X dX12_walk_59 rfl 1 rfl ?_
          refine r_aload_n X dX12_walk_60 rfl 0 rfl ?_
          refine r_iload_n X dX12_walk_61 rfl 2 rfl ?_
          refine r_iload_n X dX12_walk_62 rfl 3 rfl ?_
          refine r_bd (fun r12 hr12 => ?_)
          refine tw_c_X12_cellAt X dX12_walk_63 _ tw_w1576  hr12 (tw_le hfr rfl) (tw_le hlo rfl) hcs (Nat.le_of_ble_eq_true rfl) trivial ?_
          refine r_bd (fun r13 hr13 => ?_)
          refine tw_c_X12_isInRegion X dX12_walk_66 _ tw_w1580  hr13 (tw_le hfr rfl) (tw_le hlo rfl) hcs (Nat.le_of_ble_eq_true rfl) trivial ?_
          refine r_jn (α := Int32) (σJ := fun a14 => r11) (pcJ := 77) (LJ := fun a14 => [(0, .ref (tw_zB z + 442)), (1, .int x0), (2, .int x1), (3, .int x2), (4, .int x3)]) (stJ := fun a14 => [.int a14, .ref (tw_zB z + 442)]) (ok := fun a14 => True) (fun a14 hoka14 => ?_) (fun j15 hj15 => ?_)
          ·
            refine r_iconst X dX12_walk_77 (v := (2 : Int32)) (by decide) ?_
            refine r_bd (fun r16 hr16 => ?_)
            refine tw_c_X12_fails X dX12_walk_78 _ tw_w1362  hr16 (tw_le hfr rfl) (tw_le hlo rfl) hcs (Nat.le_of_ble_eq_true rfl) trivial ?_
            refine r_if_eq X dX12_walk_81 (tgt := 86) (by decide) ?_ ?_
            ·
              refine r_aload_n X dX12_walk_86 rfl 0 rfl ?_
              refine r_iload_n X dX12_walk_87 rfl 1 rfl ?_
              refine r_aload_n X dX12_walk_88 rfl 0 rfl ?_
              refine r_iload_n X dX12_walk_89 rfl 2 rfl ?_
              refine r_iload_n X dX12_walk_90 rfl 3 rfl ?_
              refine r_bd (fun r17 hr17 => ?_)
              refine tw_c_X12_cellAt X dX12_walk_91 _ tw_w1576  hr17 (tw_le hfr rfl) (tw_le hlo rfl) hcs (Nat.le_of_ble_eq_true rfl) trivial ?_
              refine r_bd (fun r18 hr18 => ?_)
              refine tw_c_X12_layLeads X dX12_walk_94 _ tw_w1632  hr18 (tw_le hfr rfl) (tw_le hlo rfl) hcs (Nat.le_of_ble_eq_true rfl) trivial ?_
              refine r_iconst X dX12_walk_97 (v := (0 : Int32)) (by decide) ?_
              refine r_istore X dX12_walk_98 (by decide) (LL := fun v19 => [(5, .int v19), (0, .ref (tw_zB z + 442)), (1, .int x0), (2, .int x1), (3, .int x2), (4, .int x3)]) (fun _ => rfl) (fun v19 => ?_)
              refine tw_Rf.sub [0, 1, 2, 5] rfl ?_
              refine r_lp (α := Int32) (σJ := fun a20 => r18) (pcJ := 100) (LJ := fun a20 => [(5, .int a20), (0, .ref (tw_zB z + 442)), (1, .int x0), (4, .int x3)]) (stJ := fun a20 => []) (fun k21 hk21 a20 => ?_) n v19
              refine r_aload_n X dX12_walk_100 rfl 1 rfl ?_
              refine tw_g12_23 (k := 442) (v := .ref (tw_zB z + 498)) X dX12_walk_101 _ tw_w1275 tw_kc442 rfl ?_
              refine r_iconst X dX12_walk_104 (v := (0 : Int32)) (by decide) ?_
              refine r_aald (k := 498) (r := 498 + 1 + 1 * Int32.toNatClampNeg (0 : Int32)) X dX12_walk_105 (tw_kd_lt tw_kc498 (by decide)) (tw_E18 tw_kc498) rfl rfl rfl (fun h22 => ?_)
              refine r_aload_n X dX12_walk_106 rfl 1 rfl ?_
              refine r_iload_n X dX12_walk_107 rfl 2 rfl ?_
              refine r_iload X dX12_walk_108 0 rfl ?_
              refine r_bd (fun r23 hr23 => ?_)
              refine tw_c_X12_startOf X dX12_walk_110 _ tw_w1547  hr23 (tw_le hfr rfl) (tw_le hlo rfl) hcs (Nat.le_of_ble_eq_true rfl) trivial ?_
              refine r_zald (k := (498 + 1 + 1 * Int32.toNatClampNeg (0 : Int32))) X dX12_walk_113 (tw_ke18 tw_kc498 (tw_ok_lt h22)) ?_
              refine r_if_ne X dX12_walk_114 (tgt := 123) (by decide) ?_ ?_
              ·
                refine r_aload_n X dX12_walk_123 rfl 1 rfl ?_
                refine r_iload_n X dX12_walk_124 rfl 2 rfl ?_
                refine r_iload X dX12_walk_125 0 rfl ?_
                refine r_bd (fun r24 hr24 => ?_)
                refine tw_c_X12_startOf X dX12_walk_127 _ tw_w1547  hr24 (tw_le hfr rfl) (tw_le hlo rfl) hcs (Nat.le_of_ble_eq_true rfl) trivial ?_
                refine r_istore X dX12_walk_130 (by decide) (LL := fun v25 => [(6, .int v25), (5, .int a20), (0, .ref (tw_zB z + 442)), (1, .int x0), (4, .int x3)]) (fun _ => rfl) (fun v25 => ?_)
                refine r_iconst X dX12_walk_132 (v := (0 : Int32)) (by decide) ?_
                refine r_istore X dX12_walk_133 (by decide) (LL := fun v26 => [(7, .int v26), (6, .int v25), (5, .int a20), (0, .ref (tw_zB z + 442)), (1, .int x0), (4, .int x3)]) (fun _ => rfl) (fun v26 => ?_)
                refine tw_Rf.sub [0, 1, 3, 4, 5] rfl ?_
                refine r_lp (α := Int32 × Int32 × tw_Sg) (σJ := fun a27 => a27.2.2) (pcJ := 135) (LJ := fun a27 => [(7, .int a27.2.1), (6, .int a27.1), (0, .ref (tw_zB z + 442)), (1, .int x0), (4, .int x3)]) (stJ := fun a27 => []) (fun k28 hk28 a27 => ?_) n (v25, v26, r18)
                refine r_iload X dX12_walk_135 0 rfl ?_
                refine r_iload X dX12_walk_137 4 rfl ?_
                refine r_icmp_ge X dX12_walk_139 (tgt := 168) (by decide) ?_ ?_
                ·
                  refine r_aload_n X dX12_walk_168 rfl 2 rfl ?_
                  refine tw_g12_20 (k := 442) (v := .ref (tw_zB z + 456)) X dX12_walk_169 _ tw_w1272 tw_kc442 rfl ?_
                  refine r_aload_n X dX12_walk_172 rfl 2 rfl ?_
                  refine r_iload_n X dX12_walk_173 rfl 3 rfl ?_
                  refine r_iload X dX12_walk_174 4 rfl ?_
                  refine r_iload X dX12_walk_176 1 rfl ?_
                  refine r_bd (fun r29 hr29 => ?_)
                  refine tw_c_X12_endOf X dX12_walk_178 _ tw_w1636  hr29 (tw_le hfr rfl) (tw_le hlo rfl) hcs (Nat.le_of_ble_eq_true rfl) trivial ?_
                  refine r_iald (k := 456) X dX12_walk_181 tw_kc456 ?_
                  exact r_iret X dX12_walk_182 hret hQ rfl
                ·
                  refine r_aload_n X dX12_walk_142 rfl 2 rfl ?_
                  refine r_iload_n X dX12_walk_143 rfl 3 rfl ?_
                  refine r_iload X dX12_walk_144 0 rfl ?_
                  refine r_iload X dX12_walk_146 1 rfl ?_
                  refine r_bd (fun r30 hr30 => ?_)
                  refine tw_c_X12_endOf X dX12_walk_148 _ tw_w1636  hr30 (tw_le hfr rfl) (tw_le hlo rfl) hcs (Nat.le_of_ble_eq_true rfl) trivial ?_
                  refine r_istore X dX12_walk_151 (by decide) (LL := fun v31 => [(8, .int v31), (7, .int a27.2.1), (6, .int a27.1), (0, .ref (tw_zB z + 442)), (1, .int x0), (4, .int x3)]) (fun _ => rfl) (fun v31 => ?_)
                  refine r_aload_n X dX12_walk_153 rfl 3 rfl ?_
                  refine tw_g12_19 (k := 442) (v := .ref (tw_zB z + 455)) X dX12_walk_154 _ tw_w1271 tw_kc442 rfl ?_
                  refine r_iload X dX12_walk_157 0 rfl ?_
                  refine r_iald (k := 455) X dX12_walk_159 tw_kc455 ?_
                  refine r_istore X dX12_walk_160 (by decide) (LL := fun v32 => [(6, .int v32), (8, .int v31), (7, .int a27.2.1), (0, .ref (tw_zB z + 442)), (1, .int x0), (4, .int x3)]) (fun _ => rfl) (fun v32 => ?_)
                  refine r_iinc X dX12_walk_162 2 rfl (v := (1 : Int32)) (by decide) (by decide) (LL := fun v33 => [(7, .int v33), (6, .int v32), (8, .int v31), (0, .ref (tw_zB z + 442)), (1, .int x0), (4, .int x3)]) (fun _ => rfl) (fun v33 => ?_)
                  refine r_goto X dX12_walk_165 (tgt := 135) (by decide) ?_
                  exact tw_Rf.sub [0, 1, 3, 4, 5] rfl (hk28 (v32, v33, r30.2))
              ·
                refine r_iinc X dX12_walk_117 0 rfl (v := (1 : Int32)) (by decide) (by decide) (LL := fun v34 => [(5, .int v34), (0, .ref (tw_zB z + 442)), (1, .int x0), (4, .int x3)]) (fun _ => rfl) (fun v34 => ?_)
                refine r_goto X dX12_walk_120 (tgt := 100) (by decide) ?_
                exact hk21 v34
            ·
              refine r_iconst X dX12_walk_84 (v := (0 : Int32)) (by decide) ?_
              exact r_iret X dX12_walk_85 hret hQ rfl
          refine r_if_ne X dX12_walk_69 (tgt := 76) (by decide) ?_ ?_
          ·
            refine r_iconst X dX12_walk_76 (v := (0 : Int32)) (by decide) ?_
            exact hj15 (0 : Int32) trivial
          ·
            refine r_iconst X dX12_walk_72 (v := (1 : Int32)) (by decide) ?_
            refine r_goto X dX12_walk_73 (tgt := 77) (by decide) ?_
            exact hj15 (1 : Int32) trivial
        ·
          exact tw_Rf.sub [] rfl (hj4 r10.2 trivial)
      refine r_if_ne X dX12_walk_36 (tgt := 43) (by decide) ?_ ?_
      ·
        refine r_iconst X dX12_walk_43 (v := (0 : Int32)) (by decide) ?_
        exact hj9 (0 : Int32) trivial
      ·
        refine r_iconst X dX12_walk_39 (v := (1 : Int32)) (by decide) ?_
        refine r_goto X dX12_walk_40 (tgt := 44) (by decide) ?_
        exact hj9 (1 : Int32) trivial
theorem tw_c_X12_walk {ρ : Type} {z : tw_Z} {cc : ByteArray} {own : String} {nL pc : Nat} {σ : tw_Sg} {L : List (Nat × Value)} {st : List Value} {ix : Nat} {n : Nat} {x0 : Int32} {x1 : Int32} {x2 : Int32} {x3 : Int32} (X : tw_X z cc own nL) (d : decode cc pc = .ok (.invokevirtual ix, 3)) (i : Nat) (hi : lw_tbl[i]? = some (.methodLink own ix yX12_walk))  {res : ρ} {E : Option ρ} {r : Int32 × tw_Sg} (h : tw_P_X12_walk n x0 x1 x2 x3 σ = some r) (h1 : 7 ≤ (tw_zR z).frames) (h2 : 181 ≤ (tw_zR z).locals) (hcs : tw_zcells z ≤ (tw_zR z).cells ∧ tw_zslots z ≤ (tw_zR z).slots) (hst : (st.map fun v => v.category).sum ≤ 8) (_ : True) (kk : tw_Rf z res E r.2 (pc + 3) L (.int r.1 :: st)) : tw_Rf z res E σ pc L (.int x3 :: .int x2 :: .int x1 :: .int x0 :: .ref (tw_zB z + 442) :: st) := r_callV (As := [.int x0, .int x1, .int x2, .int x3]) X d (tw_m_X12_walk  h) tw_y_X12_walk tw_v_X12_walk i hi rfl (tw_kd_lt tw_kc442 (by decide)) (tw_E12 tw_kc442) rfl ⟨rfl, rfl, h1, h2⟩ hcs hst rfl kk
def tw_P_X12_starts (n : Nat) (x0 : Int32) (x1 : Int32) (x2 : Int32) (σ : tw_Sg) : Option (Int32 × tw_Sg) :=
tw_lt (tw_up σ 442 0 (0 : Int32)) (fun (σ1 : tw_Sg) =>
tw_bd (tw_P_X12_noClue x0 σ1) (fun r2 =>
tw_jn (fun (a3 : tw_Sg) =>
some ((0 : Int32), a3)) (fun (j4 : (tw_Sg) → Option (Int32 × tw_Sg)) =>
if ¬ r2.1 = 0 then (j4 r2.2)
else (tw_bd (tw_P_X12_noCell x1 x2 r2.2) (fun r5 =>
if r5.1 = 0 then (tw_bd (tw_P_X12_cellAt x1 x2 r5.2) (fun r6 =>
tw_bd (tw_P_X12_layLeads n x0 r6 r5.2) (fun r7 =>
tw_lt (0 : Int32) (fun (v8 : Int32) =>
tw_lt (0 : Int32) (fun (v9 : Int32) =>
tw_lp (fun (k11 : (Int32 × Int32) → Option (Int32 × tw_Sg)) (a10 : Int32 × Int32) =>
tw_bd (tw_P_X12_clueAt x0 r7) (fun r12 =>
tw_ck (tw_ok (r12 + (1 : Int32)) (tw_ln 444)) (
if (r7 444 (Int32.toNatClampNeg (r12 + (1 : Int32)))) ≤ a10.2 then (some (a10.1, r7))
else (tw_ck (tw_ok (0 : Int32) (tw_ln 498)) (
tw_bd (tw_P_X12_startOf x0 a10.2 r7) (fun r14 =>
tw_ck (tw_ok r14 (tw_ln (498 + 1 + 1 * Int32.toNatClampNeg (0 : Int32)))) (
tw_jn (fun (a15 : Int32) =>
tw_lt (a10.1 + a15) (fun (v17 : Int32) =>
tw_lt (a10.2 + (1 : Int32)) (fun (v18 : Int32) =>
k11 (v17, v18)))) (fun (j16 : (Int32) → Option (Int32 × tw_Sg)) =>
if (r7 (498 + 1 + 1 * Int32.toNatClampNeg (0 : Int32)) (Int32.toNatClampNeg r14)) = 0 then (j16 (0 : Int32))
else (j16 (1 : Int32)))))))))) n (v8, v9))))))
else (j4 r5.2))))))
theorem tw_y_X12_starts : tw_My yX12_starts cX12_starts 6 (some .int) 3 := ⟨List.mem_of_getElem? tw_w1643, List.mem_of_getElem? tw_w101, by decide +kernel, by decide +kernel, by decide +kernel⟩
theorem tw_v_X12_starts : tw_Mv yX12_starts "TreasureWalkModel" := ⟨List.mem_of_getElem? tw_w1641, List.mem_of_getElem? tw_w1642, rfl⟩
set_option maxRecDepth 100000 in
set_option maxHeartbeats 4000000 in
theorem tw_m_X12_starts {l : Launch} {B : Nat} {D : va_G} {C : Nat → ClassId} {S : Nat → Nat} {n : Nat} {x0 : Int32} {x1 : Int32} {x2 : Int32} {σ : tw_Sg}  {r : Int32 × tw_Sg} (h : tw_P_X12_starts n x0 x1 x2 σ = some r) : tw_Met l B D C S yX12_starts cX12_starts 6 (some .int) ({ frames := 6, cells := 0, slots := 0, locals := 153 } : Room) [.ref (B + 442), .int x0, .int x1, .int x2] σ (some (.int r.1)) r.2 := by
  refine tw_metOfP (tw_P_X12_starts n x0 x1 x2 σ) r h (fun r => (some (.int r.1), r.2)) (by decide +kernel) (Nat.le_of_ble_eq_true rfl) ⟨rfl, rfl⟩ ?_
  intro z el eB eD eC eS hfr hlo hcs X hret hQ
  subst el eB eD eC eS
  have X : tw_X z cX12_starts "TreasureWalkModel" 6 := X
  show tw_Rf z r _ σ 0 [(0, .ref (tw_zB z + 442)), (1, .int x0), (2, .int x1), (3, .int x2)] []
  unfold tw_P_X12_starts
  refine r_aload_n X dX12_starts_0 rfl 0 rfl ?_
  refine r_iconst X dX12_starts_1 (v := (0 : Int32)) (by decide) ?_
  refine tw_s12_0 (k := 442) X dX12_starts_2 _ tw_w1252 tw_kc442 (fun σ1 => ?_)
  refine r_aload_n X dX12_starts_5 rfl 0 rfl ?_
  refine r_iload_n X dX12_starts_6 rfl 1 rfl ?_
  refine r_bd (fun r2 hr2 => ?_)
  refine tw_c_X12_noClue X dX12_starts_7 _ tw_w1612  hr2 (tw_le hfr rfl) (tw_le hlo rfl) hcs (Nat.le_of_ble_eq_true rfl) trivial ?_
  refine r_jn (α := tw_Sg) (σJ := fun a3 => a3) (pcJ := 22) (LJ := fun a3 => []) (stJ := fun a3 => []) (ok := fun a3 => True) (fun a3 hoka3 => ?_) (fun j4 hj4 => ?_)
  ·
    refine r_iconst X dX12_starts_22 (v := (0 : Int32)) (by decide) ?_
    exact r_iret X dX12_starts_23 hret hQ rfl
  refine r_if_ne X dX12_starts_10 (tgt := 22) (by decide) ?_ ?_
  ·
    exact tw_Rf.sub [] rfl (hj4 r2.2 trivial)
  ·
    refine r_aload_n X dX12_starts_13 rfl 0 rfl ?_
    refine r_iload_n X dX12_starts_14 rfl 2 rfl ?_
    refine r_iload_n X dX12_starts_15 rfl 3 rfl ?_
    refine r_bd (fun r5 hr5 => ?_)
    refine tw_c_X12_noCell X dX12_starts_16 _ tw_w1596  hr5 (tw_le hfr rfl) (tw_le hlo rfl) hcs (Nat.le_of_ble_eq_true rfl) trivial ?_
    refine r_if_eq X dX12_starts_19 (tgt := 24) (by decide) ?_ ?_
    ·
      refine r_aload_n X dX12_starts_24 rfl 0 rfl ?_
      refine r_iload_n X dX12_starts_25 rfl 1 rfl ?_
      refine r_aload_n X dX12_starts_26 rfl 0 rfl ?_
      refine r_iload_n X dX12_starts_27 rfl 2 rfl ?_
      refine r_iload_n X dX12_starts_28 rfl 3 rfl ?_
      refine r_bd (fun r6 hr6 => ?_)
      refine tw_c_X12_cellAt X dX12_starts_29 _ tw_w1576  hr6 (tw_le hfr rfl) (tw_le hlo rfl) hcs (Nat.le_of_ble_eq_true rfl) trivial ?_
      refine r_bd (fun r7 hr7 => ?_)
      refine tw_c_X12_layLeads X dX12_starts_32 _ tw_w1632  hr7 (tw_le hfr rfl) (tw_le hlo rfl) hcs (Nat.le_of_ble_eq_true rfl) trivial ?_
      refine r_iconst X dX12_starts_35 (v := (0 : Int32)) (by decide) ?_
      refine r_istore X dX12_starts_36 (by decide) (LL := fun v8 => [(4, .int v8), (0, .ref (tw_zB z + 442)), (1, .int x0), (2, .int x1), (3, .int x2)]) (fun _ => rfl) (fun v8 => ?_)
      refine r_iconst X dX12_starts_38 (v := (0 : Int32)) (by decide) ?_
      refine r_istore X dX12_starts_39 (by decide) (LL := fun v9 => [(5, .int v9), (4, .int v8), (0, .ref (tw_zB z + 442)), (1, .int x0), (2, .int x1), (3, .int x2)]) (fun _ => rfl) (fun v9 => ?_)
      refine tw_Rf.sub [0, 1, 2, 3] rfl ?_
      refine r_lp (α := Int32 × Int32) (σJ := fun a10 => r7) (pcJ := 41) (LJ := fun a10 => [(5, .int a10.2), (4, .int a10.1), (0, .ref (tw_zB z + 442)), (1, .int x0)]) (stJ := fun a10 => []) (fun k11 hk11 a10 => ?_) n (v8, v9)
      refine r_iload X dX12_starts_41 0 rfl ?_
      refine r_aload_n X dX12_starts_43 rfl 2 rfl ?_
      refine tw_g12_8 (k := 442) (v := .ref (tw_zB z + 444)) X dX12_starts_44 _ tw_w1260 tw_kc442 rfl ?_
      refine r_iload_n X dX12_starts_47 rfl 3 rfl ?_
      refine r_bd (fun r12 hr12 => ?_)
      refine tw_c_X12_clueAt X dX12_starts_48 _ tw_w1460  hr12 (tw_le hfr rfl) (tw_le hlo rfl) hcs (Nat.le_of_ble_eq_true rfl) trivial ?_
      refine r_iconst X dX12_starts_51 (v := (1 : Int32)) (by decide) ?_
      refine r_iadd X dX12_starts_52 ?_
      refine r_iald (k := 444) X dX12_starts_53 tw_kc444 ?_
      refine r_icmp_ge X dX12_starts_54 (tgt := 90) (by decide) ?_ ?_
      ·
        refine r_iload X dX12_starts_90 1 rfl ?_
        exact r_iret X dX12_starts_92 hret hQ rfl
      ·
        refine r_iload X dX12_starts_57 1 rfl ?_
        refine r_aload_n X dX12_starts_59 rfl 2 rfl ?_
        refine tw_g12_23 (k := 442) (v := .ref (tw_zB z + 498)) X dX12_starts_60 _ tw_w1275 tw_kc442 rfl ?_
        refine r_iconst X dX12_starts_63 (v := (0 : Int32)) (by decide) ?_
        refine r_aald (k := 498) (r := 498 + 1 + 1 * Int32.toNatClampNeg (0 : Int32)) X dX12_starts_64 (tw_kd_lt tw_kc498 (by decide)) (tw_E18 tw_kc498) rfl rfl rfl (fun h13 => ?_)
        refine r_aload_n X dX12_starts_65 rfl 2 rfl ?_
        refine r_iload_n X dX12_starts_66 rfl 3 rfl ?_
        refine r_iload X dX12_starts_67 0 rfl ?_
        refine r_bd (fun r14 hr14 => ?_)
        refine tw_c_X12_startOf X dX12_starts_69 _ tw_w1547  hr14 (tw_le hfr rfl) (tw_le hlo rfl) hcs (Nat.le_of_ble_eq_true rfl) trivial ?_
        refine r_zald (k := (498 + 1 + 1 * Int32.toNatClampNeg (0 : Int32))) X dX12_starts_72 (tw_ke18 tw_kc498 (tw_ok_lt h13)) ?_
        refine r_jn (α := Int32) (σJ := fun a15 => r7) (pcJ := 81) (LJ := fun a15 => [(5, .int a10.2), (0, .ref (tw_zB z + 442)), (1, .int x0)]) (stJ := fun a15 => [.int a15, .int a10.1]) (ok := fun a15 => True) (fun a15 hoka15 => ?_) (fun j16 hj16 => ?_)
        ·
          refine r_iadd X dX12_starts_81 ?_
          refine r_istore X dX12_starts_82 (by decide) (LL := fun v17 => [(4, .int v17), (5, .int a10.2), (0, .ref (tw_zB z + 442)), (1, .int x0)]) (fun _ => rfl) (fun v17 => ?_)
          refine r_iinc X dX12_starts_84 1 rfl (v := (1 : Int32)) (by decide) (by decide) (LL := fun v18 => [(5, .int v18), (4, .int v17), (0, .ref (tw_zB z + 442)), (1, .int x0)]) (fun _ => rfl) (fun v18 => ?_)
          refine r_goto X dX12_starts_87 (tgt := 41) (by decide) ?_
          exact hk11 (v17, v18)
        refine r_if_eq X dX12_starts_73 (tgt := 80) (by decide) ?_ ?_
        ·
          refine r_iconst X dX12_starts_80 (v := (0 : Int32)) (by decide) ?_
          exact tw_Rf.sub [0, 2, 3] rfl (hj16 (0 : Int32) trivial)
        ·
          refine r_iconst X dX12_starts_76 (v := (1 : Int32)) (by decide) ?_
          refine r_goto X dX12_starts_77 (tgt := 81) (by decide) ?_
          exact tw_Rf.sub [0, 2, 3] rfl (hj16 (1 : Int32) trivial)
    ·
      exact tw_Rf.sub [] rfl (hj4 r5.2 trivial)
theorem tw_c_X12_starts {ρ : Type} {z : tw_Z} {cc : ByteArray} {own : String} {nL pc : Nat} {σ : tw_Sg} {L : List (Nat × Value)} {st : List Value} {ix : Nat} {n : Nat} {x0 : Int32} {x1 : Int32} {x2 : Int32} (X : tw_X z cc own nL) (d : decode cc pc = .ok (.invokevirtual ix, 3)) (i : Nat) (hi : lw_tbl[i]? = some (.methodLink own ix yX12_starts))  {res : ρ} {E : Option ρ} {r : Int32 × tw_Sg} (h : tw_P_X12_starts n x0 x1 x2 σ = some r) (h1 : 7 ≤ (tw_zR z).frames) (h2 : 178 ≤ (tw_zR z).locals) (hcs : tw_zcells z ≤ (tw_zR z).cells ∧ tw_zslots z ≤ (tw_zR z).slots) (hst : (st.map fun v => v.category).sum ≤ 8) (_ : True) (kk : tw_Rf z res E r.2 (pc + 3) L (.int r.1 :: st)) : tw_Rf z res E σ pc L (.int x2 :: .int x1 :: .int x0 :: .ref (tw_zB z + 442) :: st) := r_callV (As := [.int x0, .int x1, .int x2]) X d (tw_m_X12_starts  h) tw_y_X12_starts tw_v_X12_starts i hi rfl (tw_kd_lt tw_kc442 (by decide)) (tw_E12 tw_kc442) rfl ⟨rfl, rfl, h1, h2⟩ hcs hst rfl kk
