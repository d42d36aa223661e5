def tw_P_X0_has (th : Nat) (x0 : Int32) (σ : tw_Sg) : Option (Int32) :=
tw_lt (x0 >>> ((5 : Int32) &&& 31)) (fun (v1 : Int32) =>
tw_jn (fun (a2 : Int32) =>
tw_ck (tw_01 a2) (some a2)) (fun (j3 : (Int32) → Option (Int32)) =>
tw_jn (fun (a4 : Unit) =>
j3 (0 : Int32)) (fun (j5 : (Unit) → Option (Int32)) =>
if v1 < 0 then (j5 ())
else (if (Int32.ofNat (tw_ln (th + 1))) ≤ v1 then (j5 ())
else (tw_ck (tw_ok v1 (tw_ln (th + 1))) (
if ¬ ((Int32.toUInt32 (σ (th + 1) (Int32.toNatClampNeg v1)) >>> (Int32.toUInt32 (x0 &&& (31 : Int32)) &&& Int32.toUInt32 31)).toInt32 &&& (1 : Int32)) = (1 : Int32) then (j5 ())
else (j3 (1 : Int32))))))))
theorem tw_y_X0_has : tw_My yX0_has cX0_has 3 (some .boolean) 1 := ⟨List.mem_of_getElem? tw_w498, List.mem_of_getElem? tw_w38, by decide +kernel, by decide +kernel, by decide +kernel⟩
theorem tw_v_X0_has : tw_Mv yX0_has "TreasureWalk$Cells" := ⟨List.mem_of_getElem? tw_w496, List.mem_of_getElem? tw_w497, rfl⟩
set_option maxRecDepth 100000 in
set_option maxHeartbeats 4000000 in
theorem tw_m_X0_has {l : Launch} {B : Nat} {D : tw_G} {C : Nat → ClassId} {S : Nat → Nat} {th : Nat} {x0 : Int32} {σ : tw_Sg} (hth : tw_kd th = 0) {r : Int32} (h : tw_P_X0_has th x0 σ = some r) : tw_Met l B D C S yX0_has cX0_has 3 (some .boolean) ({ frames := 0, cells := 0, slots := 0, locals := 0 } : Room) [.ref (B + th), .int x0] σ (some (.int r)) σ := by
  refine tw_metOfP (tw_P_X0_has th x0 σ) r h (fun r => (some (.int r), σ)) (by decide +kernel) (Nat.le_of_ble_eq_true rfl) ⟨rfl, rfl⟩ ?_
  intro z el eB eD eC eS hfr hlo hcs X hret hQ
  subst el eB eD eC eS
  have X : tw_X z cX0_has "TreasureWalk$Cells" 3 := X
  show tw_Rf z r _ σ 0 [(0, .ref (tw_zB z + th)), (1, .int x0)] []
  unfold tw_P_X0_has
  refine r_iload_n X dX0_has_0 rfl 1 rfl ?_
  refine r_iconst X dX0_has_1 (v := (5 : Int32)) (by decide) ?_
  refine r_ishr X dX0_has_2 ?_
  refine r_istore_n X dX0_has_3 rfl (by decide) (LL := fun v1 => [(2, .int v1), (0, .ref (tw_zB z + th)), (1, .int x0)]) (fun _ => rfl) (fun v1 => ?_)
  refine r_iload_n X dX0_has_4 rfl 0 rfl ?_
  refine r_jn (α := Int32) (σJ := fun a2 => σ) (pcJ := 39) (LJ := fun a2 => []) (stJ := fun a2 => [.int a2]) (ok := fun a2 => True) (fun a2 hoka2 => ?_) (fun j3 hj3 => ?_)
  ·
    exact r_zret X dX0_has_39 hret hQ rfl
  refine r_jn (α := Unit) (σJ := fun a4 => σ) (pcJ := 38) (LJ := fun a4 => []) (stJ := fun a4 => []) (ok := fun a4 => True) (fun a4 hoka4 => ?_) (fun j5 hj5 => ?_)
  ·
    refine r_iconst X dX0_has_38 (v := (0 : Int32)) (by decide) ?_
    exact hj3 (0 : Int32) trivial
  refine r_if_lt X dX0_has_5 (tgt := 38) (by decide) ?_ ?_
  ·
    exact tw_Rf.sub [] rfl (hj5 () trivial)
  ·
    refine r_iload_n X dX0_has_8 rfl 0 rfl ?_
    refine r_aload_n X dX0_has_9 rfl 1 rfl ?_
    refine tw_g0_0 (k := th) (v := .ref (tw_zB z + (th + 1))) X dX0_has_10 _ tw_w90 hth rfl ?_
    refine r_alenI (k := (th + 1)) X dX0_has_13 (tw_k0_0 hth) rfl ?_
    refine r_icmp_ge X dX0_has_14 (tgt := 38) (by decide) ?_ ?_
    ·
      exact tw_Rf.sub [] rfl (hj5 () trivial)
    ·
      refine r_aload_n X dX0_has_17 rfl 1 rfl ?_
      refine tw_g0_0 (k := th) (v := .ref (tw_zB z + (th + 1))) X dX0_has_18 _ tw_w90 hth rfl ?_
      refine r_iload_n X dX0_has_21 rfl 0 rfl ?_
      refine r_iald (k := (th + 1)) X dX0_has_22 (tw_k0_0 hth) ?_
      refine r_iload_n X dX0_has_23 rfl 2 rfl ?_
      refine r_bipush X dX0_has_24 (v := (31 : Int32)) (by decide) ?_
      refine r_iand X dX0_has_26 ?_
      refine r_iushr X dX0_has_27 ?_
      refine r_iconst X dX0_has_28 (v := (1 : Int32)) (by decide) ?_
      refine r_iand X dX0_has_29 ?_
      refine r_iconst X dX0_has_30 (v := (1 : Int32)) (by decide) ?_
      refine r_icmp_ne X dX0_has_31 (tgt := 38) (by decide) ?_ ?_
      ·
        exact tw_Rf.sub [] rfl (hj5 () trivial)
      ·
        refine r_iconst X dX0_has_34 (v := (1 : Int32)) (by decide) ?_
        refine r_goto X dX0_has_35 (tgt := 39) (by decide) ?_
        exact tw_Rf.sub [] rfl (hj3 (1 : Int32) trivial)
theorem tw_c_X0_has {ρ : Type} {z : tw_Z} {cc : ByteArray} {own : String} {nL pc : Nat} {σ : tw_Sg} {L : List (Nat × Value)} {st : List Value} {ix : Nat} {th : Nat} {x0 : Int32} (X : tw_X z cc own nL) (d : decode cc pc = .ok (.invokevirtual ix, 3)) (i : Nat) (hi : lw_tbl[i]? = some (.methodLink own ix yX0_has)) (hth : tw_kd th = 0) {res : ρ} {E : Option ρ} {r : Int32} (h : tw_P_X0_has th x0 σ = some r) (h1 : 1 ≤ (tw_zR z).frames) (h2 : 22 ≤ (tw_zR z).locals) (hcs : tw_zcells z ≤ (tw_zR z).cells ∧ tw_zslots z ≤ (tw_zR z).slots) (hst : (st.map fun v => v.category).sum ≤ 8) (_ : True) (kk : tw_Rf z res E σ (pc + 3) L (.int r :: st)) : tw_Rf z res E σ pc L (.int x0 :: .ref (tw_zB z + th) :: st) := r_callV (As := [.int x0]) X d (tw_m_X0_has hth h) tw_y_X0_has tw_v_X0_has i hi rfl (tw_kd_lt hth (by decide)) (tw_E0 hth) rfl ⟨rfl, rfl, h1, h2⟩ hcs hst rfl kk
def tw_P_X0_add (th : Nat) (x0 : Int32) (σ : tw_Sg) : Option (tw_Sg) :=
tw_lt (x0 >>> ((5 : Int32) &&& 31)) (fun (v1 : Int32) =>
tw_jn (fun (a2 : tw_Sg) =>
some a2) (fun (j3 : (tw_Sg) → Option (tw_Sg)) =>
if v1 < 0 then (j3 σ)
else (if (Int32.ofNat (tw_ln (th + 1))) ≤ v1 then (j3 σ)
else (tw_ck (tw_ok v1 (tw_ln (th + 1))) (
tw_ck (tw_ok v1 (tw_ln (th + 1))) (tw_lt (tw_up σ (th + 1) (Int32.toNatClampNeg v1) ((σ (th + 1) (Int32.toNatClampNeg v1)) ||| ((1 : Int32) <<< ((x0 &&& (31 : Int32)) &&& 31)))) (fun (σ4 : tw_Sg) =>
j3 σ4)))))))
theorem tw_y_X0_add : tw_My yX0_add cX0_add 3 none 1 := ⟨List.mem_of_getElem? tw_w252, List.mem_of_getElem? tw_w38, by decide +kernel, by decide +kernel, by decide +kernel⟩
theorem tw_v_X0_add : tw_Mv yX0_add "TreasureWalk$Cells" := ⟨List.mem_of_getElem? tw_w250, List.mem_of_getElem? tw_w251, rfl⟩
set_option maxRecDepth 100000 in
set_option maxHeartbeats 4000000 in
theorem tw_m_X0_add {l : Launch} {B : Nat} {D : tw_G} {C : Nat → ClassId} {S : Nat → Nat} {th : Nat} {x0 : Int32} {σ : tw_Sg} (hth : tw_kd th = 0) {r : tw_Sg} (h : tw_P_X0_add th x0 σ = some r) : tw_Met l B D C S yX0_add cX0_add 3 none ({ frames := 0, cells := 0, slots := 0, locals := 0 } : Room) [.ref (B + th), .int x0] σ (none) r := by
  refine tw_metOfP (tw_P_X0_add th x0 σ) r h (fun r => (none, r)) (by decide +kernel) (Nat.le_of_ble_eq_true rfl) ⟨rfl, rfl⟩ ?_
  intro z el eB eD eC eS hfr hlo hcs X hret hQ
  subst el eB eD eC eS
  have X : tw_X z cX0_add "TreasureWalk$Cells" 3 := X
  show tw_Rf z r _ σ 0 [(0, .ref (tw_zB z + th)), (1, .int x0)] []
  unfold tw_P_X0_add
  refine r_iload_n X dX0_add_0 rfl 1 rfl ?_
  refine r_iconst X dX0_add_1 (v := (5 : Int32)) (by decide) ?_
  refine r_ishr X dX0_add_2 ?_
  refine r_istore_n X dX0_add_3 rfl (by decide) (LL := fun v1 => [(2, .int v1), (0, .ref (tw_zB z + th)), (1, .int x0)]) (fun _ => rfl) (fun v1 => ?_)
  refine r_iload_n X dX0_add_4 rfl 0 rfl ?_
  refine r_jn (α := tw_Sg) (σJ := fun a2 => a2) (pcJ := 32) (LJ := fun a2 => []) (stJ := fun a2 => []) (ok := fun a2 => True) (fun a2 hoka2 => ?_) (fun j3 hj3 => ?_)
  ·
    exact r_vret X dX0_add_32 hret hQ rfl
  refine r_if_lt X dX0_add_5 (tgt := 32) (by decide) ?_ ?_
  ·
    exact tw_Rf.sub [] rfl (hj3 σ trivial)
  ·
    refine r_iload_n X dX0_add_8 rfl 0 rfl ?_
    refine r_aload_n X dX0_add_9 rfl 1 rfl ?_
    refine tw_g0_0 (k := th) (v := .ref (tw_zB z + (th + 1))) X dX0_add_10 _ tw_w90 hth rfl ?_
    refine r_alenI (k := (th + 1)) X dX0_add_13 (tw_k0_0 hth) rfl ?_
    refine r_icmp_ge X dX0_add_14 (tgt := 32) (by decide) ?_ ?_
    ·
      exact tw_Rf.sub [] rfl (hj3 σ trivial)
    ·
      refine r_aload_n X dX0_add_17 rfl 1 rfl ?_
      refine tw_g0_0 (k := th) (v := .ref (tw_zB z + (th + 1))) X dX0_add_18 _ tw_w90 hth rfl ?_
      refine r_iload_n X dX0_add_21 rfl 0 rfl ?_
      refine r_dup2 X dX0_add_22 rfl rfl ?_
      refine r_iald (k := (th + 1)) X dX0_add_23 (tw_k0_0 hth) ?_
      refine r_iconst X dX0_add_24 (v := (1 : Int32)) (by decide) ?_
      refine r_iload_n X dX0_add_25 rfl 2 rfl ?_
      refine r_bipush X dX0_add_26 (v := (31 : Int32)) (by decide) ?_
      refine r_iand X dX0_add_28 ?_
      refine r_ishl X dX0_add_29 ?_
      refine r_ior X dX0_add_30 ?_
      refine r_iast (k := (th + 1)) X dX0_add_31 (tw_k0_0 hth) (fun σ4 => ?_)
      exact tw_Rf.sub [] rfl (hj3 σ4 trivial)
theorem tw_c_X0_add {ρ : Type} {z : tw_Z} {cc : ByteArray} {own : String} {nL pc : Nat} {σ : tw_Sg} {L : List (Nat × Value)} {st : List Value} {ix : Nat} {th : Nat} {x0 : Int32} (X : tw_X z cc own nL) (d : decode cc pc = .ok (.invokevirtual ix, 3)) (i : Nat) (hi : lw_tbl[i]? = some (.methodLink own ix yX0_add)) (hth : tw_kd th = 0) {res : ρ} {E : Option ρ} {r : tw_Sg} (h : tw_P_X0_add th x0 σ = some r) (h1 : 1 ≤ (tw_zR z).frames) (h2 : 22 ≤ (tw_zR z).locals) (hcs : tw_zcells z ≤ (tw_zR z).cells ∧ tw_zslots z ≤ (tw_zR z).slots) (hst : (st.map fun v => v.category).sum ≤ 8) (_ : True) (kk : tw_Rf z res E r (pc + 3) L (st)) : tw_Rf z res E σ pc L (.int x0 :: .ref (tw_zB z + th) :: st) := r_callV (As := [.int x0]) X d (tw_m_X0_add hth h) tw_y_X0_add tw_v_X0_add i hi rfl (tw_kd_lt hth (by decide)) (tw_E0 hth) rfl ⟨rfl, rfl, h1, h2⟩ hcs hst rfl kk
def tw_P_X0_remove (th : Nat) (x0 : Int32) (σ : tw_Sg) : Option (tw_Sg) :=
tw_lt (x0 >>> ((5 : Int32) &&& 31)) (fun (v1 : Int32) =>
tw_jn (fun (a2 : tw_Sg) =>
some a2) (fun (j3 : (tw_Sg) → Option (tw_Sg)) =>
if v1 < 0 then (j3 σ)
else (if (Int32.ofNat (tw_ln (th + 1))) ≤ v1 then (j3 σ)
else (tw_ck (tw_ok v1 (tw_ln (th + 1))) (
tw_ck (tw_ok v1 (tw_ln (th + 1))) (tw_lt (tw_up σ (th + 1) (Int32.toNatClampNeg v1) ((σ (th + 1) (Int32.toNatClampNeg v1)) &&& (((1 : Int32) <<< ((x0 &&& (31 : Int32)) &&& 31)) ^^^ (-1 : Int32)))) (fun (σ4 : tw_Sg) =>
j3 σ4)))))))
theorem tw_y_X0_remove : tw_My yX0_remove cX0_remove 3 none 1 := ⟨List.mem_of_getElem? tw_w935, List.mem_of_getElem? tw_w38, by decide +kernel, by decide +kernel, by decide +kernel⟩
theorem tw_v_X0_remove : tw_Mv yX0_remove "TreasureWalk$Cells" := ⟨List.mem_of_getElem? tw_w933, List.mem_of_getElem? tw_w934, rfl⟩
set_option maxRecDepth 100000 in
set_option maxHeartbeats 4000000 in
theorem tw_m_X0_remove {l : Launch} {B : Nat} {D : tw_G} {C : Nat → ClassId} {S : Nat → Nat} {th : Nat} {x0 : Int32} {σ : tw_Sg} (hth : tw_kd th = 0) {r : tw_Sg} (h : tw_P_X0_remove th x0 σ = some r) : tw_Met l B D C S yX0_remove cX0_remove 3 none ({ frames := 0, cells := 0, slots := 0, locals := 0 } : Room) [.ref (B + th), .int x0] σ (none) r := by
  refine tw_metOfP (tw_P_X0_remove th x0 σ) r h (fun r => (none, r)) (by decide +kernel) (Nat.le_of_ble_eq_true rfl) ⟨rfl, rfl⟩ ?_
  intro z el eB eD eC eS hfr hlo hcs X hret hQ
  subst el eB eD eC eS
  have X : tw_X z cX0_remove "TreasureWalk$Cells" 3 := X
  show tw_Rf z r _ σ 0 [(0, .ref (tw_zB z + th)), (1, .int x0)] []
  unfold tw_P_X0_remove
  refine r_iload_n X dX0_remove_0 rfl 1 rfl ?_
  refine r_iconst X dX0_remove_1 (v := (5 : Int32)) (by decide) ?_
  refine r_ishr X dX0_remove_2 ?_
  refine r_istore_n X dX0_remove_3 rfl (by decide) (LL := fun v1 => [(2, .int v1), (0, .ref (tw_zB z + th)), (1, .int x0)]) (fun _ => rfl) (fun v1 => ?_)
  refine r_iload_n X dX0_remove_4 rfl 0 rfl ?_
  refine r_jn (α := tw_Sg) (σJ := fun a2 => a2) (pcJ := 34) (LJ := fun a2 => []) (stJ := fun a2 => []) (ok := fun a2 => True) (fun a2 hoka2 => ?_) (fun j3 hj3 => ?_)
  ·
    exact r_vret X dX0_remove_34 hret hQ rfl
  refine r_if_lt X dX0_remove_5 (tgt := 34) (by decide) ?_ ?_
  ·
    exact tw_Rf.sub [] rfl (hj3 σ trivial)
  ·
    refine r_iload_n X dX0_remove_8 rfl 0 rfl ?_
    refine r_aload_n X dX0_remove_9 rfl 1 rfl ?_
    refine tw_g0_0 (k := th) (v := .ref (tw_zB z + (th + 1))) X dX0_remove_10 _ tw_w90 hth rfl ?_
    refine r_alenI (k := (th + 1)) X dX0_remove_13 (tw_k0_0 hth) rfl ?_
    refine r_icmp_ge X dX0_remove_14 (tgt := 34) (by decide) ?_ ?_
    ·
      exact tw_Rf.sub [] rfl (hj3 σ trivial)
    ·
      refine r_aload_n X dX0_remove_17 rfl 1 rfl ?_
      refine tw_g0_0 (k := th) (v := .ref (tw_zB z + (th + 1))) X dX0_remove_18 _ tw_w90 hth rfl ?_
      refine r_iload_n X dX0_remove_21 rfl 0 rfl ?_
      refine r_dup2 X dX0_remove_22 rfl rfl ?_
      refine r_iald (k := (th + 1)) X dX0_remove_23 (tw_k0_0 hth) ?_
      refine r_iconst X dX0_remove_24 (v := (1 : Int32)) (by decide) ?_
      refine r_iload_n X dX0_remove_25 rfl 2 rfl ?_
      refine r_bipush X dX0_remove_26 (v := (31 : Int32)) (by decide) ?_
      refine r_iand X dX0_remove_28 ?_
      refine r_ishl X dX0_remove_29 ?_
      refine r_iconst X dX0_remove_30 (v := (-1 : Int32)) (by decide) ?_
      refine r_ixor X dX0_remove_31 ?_
      refine r_iand X dX0_remove_32 ?_
      refine r_iast (k := (th + 1)) X dX0_remove_33 (tw_k0_0 hth) (fun σ4 => ?_)
      exact tw_Rf.sub [] rfl (hj3 σ4 trivial)
theorem tw_c_X0_remove {ρ : Type} {z : tw_Z} {cc : ByteArray} {own : String} {nL pc : Nat} {σ : tw_Sg} {L : List (Nat × Value)} {st : List Value} {ix : Nat} {th : Nat} {x0 : Int32} (X : tw_X z cc own nL) (d : decode cc pc = .ok (.invokevirtual ix, 3)) (i : Nat) (hi : lw_tbl[i]? = some (.methodLink own ix yX0_remove)) (hth : tw_kd th = 0) {res : ρ} {E : Option ρ} {r : tw_Sg} (h : tw_P_X0_remove th x0 σ = some r) (h1 : 1 ≤ (tw_zR z).frames) (h2 : 22 ≤ (tw_zR z).locals) (hcs : tw_zcells z ≤ (tw_zR z).cells ∧ tw_zslots z ≤ (tw_zR z).slots) (hst : (st.map fun v => v.category).sum ≤ 8) (_ : True) (kk : tw_Rf z res E r (pc + 3) L (st)) : tw_Rf z res E σ pc L (.int x0 :: .ref (tw_zB z + th) :: st) := r_callV (As := [.int x0]) X d (tw_m_X0_remove hth h) tw_y_X0_remove tw_v_X0_remove i hi rfl (tw_kd_lt hth (by decide)) (tw_E0 hth) rfl ⟨rfl, rfl, h1, h2⟩ hcs hst rfl kk
def tw_P_J7_fill_53178 (n : Nat) (r0 : Nat) (x1 : Int32) (σ : tw_Sg) : Option (tw_Sg) :=
tw_lt (0 : Int32) (fun (v1 : Int32) =>
tw_lt (Int32.ofNat (tw_ln r0)) (fun (v2 : Int32) =>
tw_lp (fun (k4 : (Int32 × tw_Sg) → Option (tw_Sg)) (a3 : Int32 × tw_Sg) =>
if v2 ≤ a3.1 then (some a3.2)
else (tw_ck (tw_ok a3.1 (tw_ln r0)) (tw_lt (tw_up a3.2 r0 (Int32.toNatClampNeg a3.1) x1) (fun (σ5 : tw_Sg) =>
tw_lt (a3.1 + (1 : Int32)) (fun (v6 : Int32) =>
k4 (v6, σ5)))))) n (v1, σ)))
theorem tw_y_J7_fill_53178 : tw_My yJ7_fill_53178 cJ7_fill_53178 4 none 2 := ⟨List.mem_of_getElem? tw_w245, List.mem_of_getElem? tw_w41, by decide +kernel, by decide +kernel, by decide +kernel⟩
theorem tw_v_J7_fill_53178 : tw_Ms yJ7_fill_53178 := List.mem_of_getElem? tw_w244
set_option maxRecDepth 100000 in
set_option maxHeartbeats 4000000 in
theorem tw_m_J7_fill_53178 {l : Launch} {B : Nat} {D : tw_G} {C : Nat → ClassId} {S : Nat → Nat} {n : Nat} {r0 : Nat} {x1 : Int32} {σ : tw_Sg} (hr0 : tw_kd r0 = 13) {r : tw_Sg} (h : tw_P_J7_fill_53178 n r0 x1 σ = some r) : tw_Met l B D C S yJ7_fill_53178 cJ7_fill_53178 4 none ({ frames := 0, cells := 0, slots := 0, locals := 0 } : Room) [.ref (B + r0), .int x1] σ (none) r := by
  refine tw_metOfP (tw_P_J7_fill_53178 n r0 x1 σ) r h (fun r => (none, r)) (by decide +kernel) (Nat.le_of_ble_eq_true rfl) ⟨rfl, rfl⟩ ?_
  intro z el eB eD eC eS hfr hlo hcs X hret hQ
  subst el eB eD eC eS
  have X : tw_X z cJ7_fill_53178 "java/util/Arrays" 4 := X
  show tw_Rf z r _ σ 0 [(0, .ref (tw_zB z + r0)), (1, .int x1)] []
  unfold tw_P_J7_fill_53178
  refine r_iconst X dJ7_fill_53178_0 (v := (0 : Int32)) (by decide) ?_
  refine r_istore_n X dJ7_fill_53178_1 rfl (by decide) (LL := fun v1 => [(2, .int v1), (0, .ref (tw_zB z + r0)), (1, .int x1)]) (fun _ => rfl) (fun v1 => ?_)
  refine r_aload_n X dJ7_fill_53178_2 rfl 1 rfl ?_
  refine r_alenI (k := r0) X dJ7_fill_53178_3 hr0 rfl ?_
  refine r_istore_n X dJ7_fill_53178_4 rfl (by decide) (LL := fun v2 => [(3, .int v2), (2, .int v1), (0, .ref (tw_zB z + r0)), (1, .int x1)]) (fun _ => rfl) (fun v2 => ?_)
  refine r_lp (α := Int32 × tw_Sg) (σJ := fun a3 => a3.2) (pcJ := 5) (LJ := fun a3 => [(3, .int v2), (2, .int a3.1), (0, .ref (tw_zB z + r0)), (1, .int x1)]) (stJ := fun a3 => []) (fun k4 hk4 a3 => ?_) n (v1, σ)
  refine r_iload_n X dJ7_fill_53178_5 rfl 1 rfl ?_
  refine r_iload_n X dJ7_fill_53178_6 rfl 0 rfl ?_
  refine r_icmp_ge X dJ7_fill_53178_7 (tgt := 20) (by decide) ?_ ?_
  ·
    exact r_vret X dJ7_fill_53178_20 hret hQ rfl
  ·
    refine r_aload_n X dJ7_fill_53178_10 rfl 2 rfl ?_
    refine r_iload_n X dJ7_fill_53178_11 rfl 1 rfl ?_
    refine r_iload_n X dJ7_fill_53178_12 rfl 3 rfl ?_
    refine r_iast (k := r0) X dJ7_fill_53178_13 hr0 (fun σ5 => ?_)
    refine r_iinc X dJ7_fill_53178_14 1 rfl (v := (1 : Int32)) (by decide) (by decide) (LL := fun v6 => [(2, .int v6), (3, .int v2), (0, .ref (tw_zB z + r0)), (1, .int x1)]) (fun _ => rfl) (fun v6 => ?_)
    refine r_goto X dJ7_fill_53178_17 (tgt := 5) (by decide) ?_
    exact tw_Rf.sub [1, 0, 2, 3] rfl (hk4 (v6, σ5))
theorem tw_c_J7_fill_53178 {ρ : Type} {z : tw_Z} {cc : ByteArray} {own : String} {nL pc : Nat} {σ : tw_Sg} {L : List (Nat × Value)} {st : List Value} {ix : Nat} {n : Nat} {r0 : Nat} {x1 : Int32} (X : tw_X z cc own nL) (d : decode cc pc = .ok (.invokestatic ix, 3)) (i : Nat) (hi : lw_tbl[i]? = some (.methodLink own ix yJ7_fill_53178)) (hr0 : tw_kd r0 = 13) {res : ρ} {E : Option ρ} {r : tw_Sg} (h : tw_P_J7_fill_53178 n r0 x1 σ = some r) (h1 : 1 ≤ (tw_zR z).frames) (h2 : 23 ≤ (tw_zR z).locals) (hcs : tw_zcells z ≤ (tw_zR z).cells ∧ tw_zslots z ≤ (tw_zR z).slots) (hst : (st.map fun v => v.category).sum ≤ 8) (_ : True) (kk : tw_Rf z res E r (pc + 3) L (st)) : tw_Rf z res E σ pc L (.int x1 :: .ref (tw_zB z + r0) :: st) := r_callS (As := [.ref (tw_zB z + r0), .int x1]) X d (tw_m_J7_fill_53178 hr0 h) tw_y_J7_fill_53178 tw_v_J7_fill_53178 i hi rfl ⟨rfl, rfl, h1, h2⟩ hcs hst rfl kk
def tw_P_X0_clear (n : Nat) (th : Nat) (σ : tw_Sg) : Option (tw_Sg) :=
tw_bd (tw_P_J7_fill_53178 n (th + 1) (0 : Int32) σ) (fun r1 =>
some r1)
theorem tw_y_X0_clear : tw_My yX0_clear cX0_clear 1 none 0 := ⟨List.mem_of_getElem? tw_w242, List.mem_of_getElem? tw_w38, by decide +kernel, by decide +kernel, by decide +kernel⟩
theorem tw_v_X0_clear : tw_Mv yX0_clear "TreasureWalk$Cells" := ⟨List.mem_of_getElem? tw_w240, List.mem_of_getElem? tw_w241, rfl⟩
set_option maxRecDepth 100000 in
set_option maxHeartbeats 4000000 in
theorem tw_m_X0_clear {l : Launch} {B : Nat} {D : tw_G} {C : Nat → ClassId} {S : Nat → Nat} {n : Nat} {th : Nat} {σ : tw_Sg} (hth : tw_kd th = 0) {r : tw_Sg} (h : tw_P_X0_clear n th σ = some r) : tw_Met l B D C S yX0_clear cX0_clear 1 none ({ frames := 1, cells := 0, slots := 0, locals := 23 } : Room) [.ref (B + th)] σ (none) r := by
  refine tw_metOfP (tw_P_X0_clear n th σ) r h (fun r => (none, r)) (by decide +kernel) (Nat.le_of_ble_eq_true rfl) ⟨rfl, rfl⟩ ?_
  intro z el eB eD eC eS hfr hlo hcs X hret hQ
  subst el eB eD eC eS
  have X : tw_X z cX0_clear "TreasureWalk$Cells" 1 := X
  show tw_Rf z r _ σ 0 [(0, .ref (tw_zB z + th))] []
  unfold tw_P_X0_clear
  refine r_aload_n X dX0_clear_0 rfl 0 rfl ?_
  refine tw_g0_0 (k := th) (v := .ref (tw_zB z + (th + 1))) X dX0_clear_1 _ tw_w90 hth rfl ?_
  refine r_iconst X dX0_clear_4 (v := (0 : Int32)) (by decide) ?_
  refine r_bd (fun r1 hr1 => ?_)
  refine tw_c_J7_fill_53178 X dX0_clear_5 _ tw_w243 (tw_k0_0 hth) hr1 (tw_le hfr rfl) (tw_le hlo rfl) hcs (Nat.le_of_ble_eq_true rfl) trivial ?_
  exact r_vret X dX0_clear_8 hret hQ rfl
theorem tw_c_X0_clear {ρ : Type} {z : tw_Z} {cc : ByteArray} {own : String} {nL pc : Nat} {σ : tw_Sg} {L : List (Nat × Value)} {st : List Value} {ix : Nat} {n : Nat} {th : Nat} (X : tw_X z cc own nL) (d : decode cc pc = .ok (.invokevirtual ix, 3)) (i : Nat) (hi : lw_tbl[i]? = some (.methodLink own ix yX0_clear)) (hth : tw_kd th = 0) {res : ρ} {E : Option ρ} {r : tw_Sg} (h : tw_P_X0_clear n th σ = some r) (h1 : 2 ≤ (tw_zR z).frames) (h2 : 43 ≤ (tw_zR z).locals) (hcs : tw_zcells z ≤ (tw_zR z).cells ∧ tw_zslots z ≤ (tw_zR z).slots) (hst : (st.map fun v => v.category).sum ≤ 8) (_ : True) (kk : tw_Rf z res E r (pc + 3) L (st)) : tw_Rf z res E σ pc L (.ref (tw_zB z + th) :: st) := r_callV (As := []) X d (tw_m_X0_clear hth h) tw_y_X0_clear tw_v_X0_clear i hi rfl (tw_kd_lt hth (by decide)) (tw_E0 hth) rfl ⟨rfl, rfl, h1, h2⟩ hcs hst rfl kk
def tw_P_J6_bitCount_0f7a4 (x0 : Int32) (σ : tw_Sg) : Option (Int32) :=
tw_lt (x0 - ((Int32.toUInt32 x0 >>> (Int32.toUInt32 (1 : Int32) &&& Int32.toUInt32 31)).toInt32 &&& (1431655765 : Int32))) (fun (v1 : Int32) =>
tw_lt ((v1 &&& (858993459 : Int32)) + ((Int32.toUInt32 v1 >>> (Int32.toUInt32 (2 : Int32) &&& Int32.toUInt32 31)).toInt32 &&& (858993459 : Int32))) (fun (v2 : Int32) =>
tw_lt ((v2 + (Int32.toUInt32 v2 >>> (Int32.toUInt32 (4 : Int32) &&& Int32.toUInt32 31)).toInt32) &&& (252645135 : Int32)) (fun (v3 : Int32) =>
tw_lt (v3 + (Int32.toUInt32 v3 >>> (Int32.toUInt32 (8 : Int32) &&& Int32.toUInt32 31)).toInt32) (fun (v4 : Int32) =>
tw_lt (v4 + (Int32.toUInt32 v4 >>> (Int32.toUInt32 (16 : Int32) &&& Int32.toUInt32 31)).toInt32) (fun (v5 : Int32) =>
some (v5 &&& (63 : Int32)))))))
theorem tw_y_J6_bitCount_0f7a4 : tw_My yJ6_bitCount_0f7a4 cJ6_bitCount_0f7a4 1 (some .int) 1 := ⟨List.mem_of_getElem? tw_w942, List.mem_of_getElem? tw_w54, by decide +kernel, by decide +kernel, by decide +kernel⟩
theorem tw_v_J6_bitCount_0f7a4 : tw_Ms yJ6_bitCount_0f7a4 := List.mem_of_getElem? tw_w941
set_option maxRecDepth 100000 in
set_option maxHeartbeats 4000000 in
theorem tw_m_J6_bitCount_0f7a4 {l : Launch} {B : Nat} {D : tw_G} {C : Nat → ClassId} {S : Nat → Nat} {x0 : Int32} {σ : tw_Sg}  {r : Int32} (h : tw_P_J6_bitCount_0f7a4 x0 σ = some r) : tw_Met l B D C S yJ6_bitCount_0f7a4 cJ6_bitCount_0f7a4 1 (some .int) ({ frames := 0, cells := 0, slots := 0, locals := 0 } : Room) [.int x0] σ (some (.int r)) σ := by
  refine tw_metOfP (tw_P_J6_bitCount_0f7a4 x0 σ) r h (fun r => (some (.int r), σ)) (by decide +kernel) (Nat.le_of_ble_eq_true rfl) ⟨rfl, rfl⟩ ?_
  intro z el eB eD eC eS hfr hlo hcs X hret hQ
  subst el eB eD eC eS
  have X : tw_X z cJ6_bitCount_0f7a4 "java/lang/Integer" 1 := X
  show tw_Rf z r _ σ 0 [(0, .int x0)] []
  unfold tw_P_J6_bitCount_0f7a4
  refine r_iload_n X dJ6_bitCount_0f7a4_0 rfl 0 rfl ?_
  refine r_iload_n X dJ6_bitCount_0f7a4_1 rfl 0 rfl ?_
  refine r_iconst X dJ6_bitCount_0f7a4_2 (v := (1 : Int32)) (by decide) ?_
  refine r_iushr X dJ6_bitCount_0f7a4_3 ?_
  refine r_ldcIw X dJ6_bitCount_0f7a4_4 (v := (1431655765 : Int32)) _ tw_w943 ?_
  refine r_iand X dJ6_bitCount_0f7a4_7 ?_
  refine r_isub X dJ6_bitCount_0f7a4_8 ?_
  refine r_istore_n X dJ6_bitCount_0f7a4_9 rfl (by decide) (LL := fun v1 => [(0, .int v1)]) (fun _ => rfl) (fun v1 => ?_)
  refine r_iload_n X dJ6_bitCount_0f7a4_10 rfl 0 rfl ?_
  refine r_ldcIw X dJ6_bitCount_0f7a4_11 (v := (858993459 : Int32)) _ tw_w944 ?_
  refine r_iand X dJ6_bitCount_0f7a4_14 ?_
  refine r_iload_n X dJ6_bitCount_0f7a4_15 rfl 0 rfl ?_
  refine r_iconst X dJ6_bitCount_0f7a4_16 (v := (2 : Int32)) (by decide) ?_
  refine r_iushr X dJ6_bitCount_0f7a4_17 ?_
  refine r_ldcIw X dJ6_bitCount_0f7a4_18 (v := (858993459 : Int32)) _ tw_w944 ?_
  refine r_iand X dJ6_bitCount_0f7a4_21 ?_
  refine r_iadd X dJ6_bitCount_0f7a4_22 ?_
  refine r_istore_n X dJ6_bitCount_0f7a4_23 rfl (by decide) (LL := fun v2 => [(0, .int v2)]) (fun _ => rfl) (fun v2 => ?_)
  refine r_iload_n X dJ6_bitCount_0f7a4_24 rfl 0 rfl ?_
  refine r_iload_n X dJ6_bitCount_0f7a4_25 rfl 0 rfl ?_
  refine r_iconst X dJ6_bitCount_0f7a4_26 (v := (4 : Int32)) (by decide) ?_
  refine r_iushr X dJ6_bitCount_0f7a4_27 ?_
  refine r_iadd X dJ6_bitCount_0f7a4_28 ?_
  refine r_ldcIw X dJ6_bitCount_0f7a4_29 (v := (252645135 : Int32)) _ tw_w945 ?_
  refine r_iand X dJ6_bitCount_0f7a4_32 ?_
  refine r_istore_n X dJ6_bitCount_0f7a4_33 rfl (by decide) (LL := fun v3 => [(0, .int v3)]) (fun _ => rfl) (fun v3 => ?_)
  refine r_iload_n X dJ6_bitCount_0f7a4_34 rfl 0 rfl ?_
  refine r_iload_n X dJ6_bitCount_0f7a4_35 rfl 0 rfl ?_
  refine r_bipush X dJ6_bitCount_0f7a4_36 (v := (8 : Int32)) (by decide) ?_
  refine r_iushr X dJ6_bitCount_0f7a4_38 ?_
  refine r_iadd X dJ6_bitCount_0f7a4_39 ?_
  refine r_istore_n X dJ6_bitCount_0f7a4_40 rfl (by decide) (LL := fun v4 => [(0, .int v4)]) (fun _ => rfl) (fun v4 => ?_)
  refine r_iload_n X dJ6_bitCount_0f7a4_41 rfl 0 rfl ?_
  refine r_iload_n X dJ6_bitCount_0f7a4_42 rfl 0 rfl ?_
  refine r_bipush X dJ6_bitCount_0f7a4_43 (v := (16 : Int32)) (by decide) ?_
  refine r_iushr X dJ6_bitCount_0f7a4_45 ?_
  refine r_iadd X dJ6_bitCount_0f7a4_46 ?_
  refine r_istore_n X dJ6_bitCount_0f7a4_47 rfl (by decide) (LL := fun v5 => [(0, .int v5)]) (fun _ => rfl) (fun v5 => ?_)
  refine r_iload_n X dJ6_bitCount_0f7a4_48 rfl 0 rfl ?_
  refine r_bipush X dJ6_bitCount_0f7a4_49 (v := (63 : Int32)) (by decide) ?_
  refine r_iand X dJ6_bitCount_0f7a4_51 ?_
  exact r_iret X dJ6_bitCount_0f7a4_52 hret hQ rfl
theorem tw_c_J6_bitCount_0f7a4 {ρ : Type} {z : tw_Z} {cc : ByteArray} {own : String} {nL pc : Nat} {σ : tw_Sg} {L : List (Nat × Value)} {st : List Value} {ix : Nat} {x0 : Int32} (X : tw_X z cc own nL) (d : decode cc pc = .ok (.invokestatic ix, 3)) (i : Nat) (hi : lw_tbl[i]? = some (.methodLink own ix yJ6_bitCount_0f7a4))  {res : ρ} {E : Option ρ} {r : Int32} (h : tw_P_J6_bitCount_0f7a4 x0 σ = some r) (h1 : 1 ≤ (tw_zR z).frames) (h2 : 20 ≤ (tw_zR z).locals) (hcs : tw_zcells z ≤ (tw_zR z).cells ∧ tw_zslots z ≤ (tw_zR z).slots) (hst : (st.map fun v => v.category).sum ≤ 8) (_ : True) (kk : tw_Rf z res E σ (pc + 3) L (.int r :: st)) : tw_Rf z res E σ pc L (.int x0 :: st) := r_callS (As := [.int x0]) X d (tw_m_J6_bitCount_0f7a4  h) tw_y_J6_bitCount_0f7a4 tw_v_J6_bitCount_0f7a4 i hi rfl ⟨rfl, rfl, h1, h2⟩ hcs hst rfl kk
def tw_P_X0_count (n : Nat) (th : Nat) (σ : tw_Sg) : Option (Int32) :=
tw_lt (0 : Int32) (fun (v1 : Int32) =>
tw_lt (Int32.ofNat (tw_ln (th + 1))) (fun (v2 : Int32) =>
tw_lt (0 : Int32) (fun (v3 : Int32) =>
tw_lp (fun (k5 : (Int32 × Int32) → Option (Int32)) (a4 : Int32 × Int32) =>
if v2 ≤ a4.2 then (some a4.1)
else (tw_ck (tw_ok a4.2 (tw_ln (th + 1))) (
tw_lt (σ (th + 1) (Int32.toNatClampNeg a4.2)) (fun (v6 : Int32) =>
tw_bd (tw_P_J6_bitCount_0f7a4 v6 σ) (fun r7 =>
tw_lt (a4.1 + r7) (fun (v8 : Int32) =>
tw_lt (a4.2 + (1 : Int32)) (fun (v9 : Int32) =>
k5 (v8, v9)))))))) n (v1, v3))))
theorem tw_y_X0_count : tw_My yX0_count cX0_count 6 (some .int) 0 := ⟨List.mem_of_getElem? tw_w939, List.mem_of_getElem? tw_w38, by decide +kernel, by decide +kernel, by decide +kernel⟩
theorem tw_v_X0_count : tw_Mv yX0_count "TreasureWalk$Cells" := ⟨List.mem_of_getElem? tw_w937, List.mem_of_getElem? tw_w938, rfl⟩
set_option maxRecDepth 100000 in
set_option maxHeartbeats 4000000 in
theorem tw_m_X0_count {l : Launch} {B : Nat} {D : tw_G} {C : Nat → ClassId} {S : Nat → Nat} {n : Nat} {th : Nat} {σ : tw_Sg} (hth : tw_kd th = 0) {r : Int32} (h : tw_P_X0_count n th σ = some r) : tw_Met l B D C S yX0_count cX0_count 6 (some .int) ({ frames := 1, cells := 0, slots := 0, locals := 20 } : Room) [.ref (B + th)] σ (some (.int r)) σ := by
  refine tw_metOfP (tw_P_X0_count n th σ) r h (fun r => (some (.int r), σ)) (by decide +kernel) (Nat.le_of_ble_eq_true rfl) ⟨rfl, rfl⟩ ?_
  intro z el eB eD eC eS hfr hlo hcs X hret hQ
  subst el eB eD eC eS
  have X : tw_X z cX0_count "TreasureWalk$Cells" 6 := X
  show tw_Rf z r _ σ 0 [(0, .ref (tw_zB z + th))] []
  unfold tw_P_X0_count
  refine r_iconst X dX0_count_0 (v := (0 : Int32)) (by decide) ?_
  refine r_istore_n X dX0_count_1 rfl (by decide) (LL := fun v1 => [(1, .int v1), (0, .ref (tw_zB z + th))]) (fun _ => rfl) (fun v1 => ?_)
  refine r_aload_n X dX0_count_2 rfl 1 rfl ?_
  refine tw_g0_0 (k := th) (v := .ref (tw_zB z + (th + 1))) X dX0_count_3 _ tw_w90 hth rfl ?_
  refine r_astore_n X dX0_count_6 rfl (by decide) (L' := [(2, .ref (tw_zB z + (th + 1))), (1, .int v1), (0, .ref (tw_zB z + th))]) rfl ?_
  refine r_aload_n X dX0_count_7 rfl 0 rfl ?_
  refine r_alenI (k := (th + 1)) X dX0_count_8 (tw_k0_0 hth) rfl ?_
  refine r_istore_n X dX0_count_9 rfl (by decide) (LL := fun v2 => [(3, .int v2), (2, .ref (tw_zB z + (th + 1))), (1, .int v1), (0, .ref (tw_zB z + th))]) (fun _ => rfl) (fun v2 => ?_)
  refine r_iconst X dX0_count_10 (v := (0 : Int32)) (by decide) ?_
  refine r_istore X dX0_count_11 (by decide) (LL := fun v3 => [(4, .int v3), (3, .int v2), (2, .ref (tw_zB z + (th + 1))), (1, .int v1), (0, .ref (tw_zB z + th))]) (fun _ => rfl) (fun v3 => ?_)
  refine tw_Rf.sub [0, 1, 2, 3] rfl ?_
  refine r_lp (α := Int32 × Int32) (σJ := fun a4 => σ) (pcJ := 13) (LJ := fun a4 => [(4, .int a4.2), (3, .int v2), (2, .ref (tw_zB z + (th + 1))), (1, .int a4.1)]) (stJ := fun a4 => []) (fun k5 hk5 a4 => ?_) n (v1, v3)
  refine r_iload X dX0_count_13 0 rfl ?_
  refine r_iload_n X dX0_count_15 rfl 1 rfl ?_
  refine r_icmp_ge X dX0_count_16 (tgt := 39) (by decide) ?_ ?_
  ·
    refine r_iload_n X dX0_count_39 rfl 3 rfl ?_
    exact r_iret X dX0_count_40 hret hQ rfl
  ·
    refine r_aload_n X dX0_count_19 rfl 2 rfl ?_
    refine r_iload X dX0_count_20 0 rfl ?_
    refine r_iald (k := (th + 1)) X dX0_count_22 (tw_k0_0 hth) ?_
    refine r_istore X dX0_count_23 (by decide) (LL := fun v6 => [(5, .int v6), (4, .int a4.2), (3, .int v2), (2, .ref (tw_zB z + (th + 1))), (1, .int a4.1)]) (fun _ => rfl) (fun v6 => ?_)
    refine r_iload_n X dX0_count_25 rfl 4 rfl ?_
    refine r_iload X dX0_count_26 0 rfl ?_
    refine r_bd (fun r7 hr7 => ?_)
    refine tw_c_J6_bitCount_0f7a4 X dX0_count_28 _ tw_w940  hr7 (tw_le hfr rfl) (tw_le hlo rfl) hcs (Nat.le_of_ble_eq_true rfl) trivial ?_
    refine r_iadd X dX0_count_31 ?_
    refine r_istore_n X dX0_count_32 rfl (by decide) (LL := fun v8 => [(1, .int v8), (5, .int v6), (4, .int a4.2), (3, .int v2), (2, .ref (tw_zB z + (th + 1)))]) (fun _ => rfl) (fun v8 => ?_)
    refine r_iinc X dX0_count_33 2 rfl (v := (1 : Int32)) (by decide) (by decide) (LL := fun v9 => [(4, .int v9), (1, .int v8), (5, .int v6), (3, .int v2), (2, .ref (tw_zB z + (th + 1)))]) (fun _ => rfl) (fun v9 => ?_)
    refine r_goto X dX0_count_36 (tgt := 13) (by decide) ?_
    exact tw_Rf.sub [0, 3, 4, 1] rfl (hk5 (v8, v9))
theorem tw_c_X0_count {ρ : Type} {z : tw_Z} {cc : ByteArray} {own : String} {nL pc : Nat} {σ : tw_Sg} {L : List (Nat × Value)} {st : List Value} {ix : Nat} {n : Nat} {th : Nat} (X : tw_X z cc own nL) (d : decode cc pc = .ok (.invokevirtual ix, 3)) (i : Nat) (hi : lw_tbl[i]? = some (.methodLink own ix yX0_count)) (hth : tw_kd th = 0) {res : ρ} {E : Option ρ} {r : Int32} (h : tw_P_X0_count n th σ = some r) (h1 : 2 ≤ (tw_zR z).frames) (h2 : 45 ≤ (tw_zR z).locals) (hcs : tw_zcells z ≤ (tw_zR z).cells ∧ tw_zslots z ≤ (tw_zR z).slots) (hst : (st.map fun v => v.category).sum ≤ 8) (_ : True) (kk : tw_Rf z res E σ (pc + 3) L (.int r :: st)) : tw_Rf z res E σ pc L (.ref (tw_zB z + th) :: st) := r_callV (As := []) X d (tw_m_X0_count hth h) tw_y_X0_count tw_v_X0_count i hi rfl (tw_kd_lt hth (by decide)) (tw_E0 hth) rfl ⟨rfl, rfl, h1, h2⟩ hcs hst rfl kk
def tw_P_X0_at (n : Nat) (th : Nat) (x0 : Int32) (σ : tw_Sg) : Option (Int32) :=
tw_lt (0 : Int32) (fun (v1 : Int32) =>
tw_lt (0 : Int32) (fun (v2 : Int32) =>
tw_lp (fun (k4 : (Int32 × Int32) → Option (Int32)) (a3 : Int32 × Int32) =>
if (704 : Int32) ≤ a3.2 then (some (0 : Int32))
else (tw_bd (tw_P_X0_has th a3.2 σ) (fun r5 =>
tw_jn (fun (a6 : Int32) =>
tw_lt (a3.2 + (1 : Int32)) (fun (v8 : Int32) =>
k4 (a6, v8))) (fun (j7 : (Int32) → Option (Int32)) =>
if r5 = 0 then (j7 a3.1)
else (if ¬ a3.1 = x0 then (tw_lt (a3.1 + (1 : Int32)) (fun (v9 : Int32) =>
j7 v9))
else (some a3.2)))))) n (v1, v2)))
theorem tw_y_X0_at : tw_My yX0_at cX0_at 4 (some .int) 1 := ⟨List.mem_of_getElem? tw_w1030, List.mem_of_getElem? tw_w38, by decide +kernel, by decide +kernel, by decide +kernel⟩
theorem tw_v_X0_at : tw_Mv yX0_at "TreasureWalk$Cells" := ⟨List.mem_of_getElem? tw_w1028, List.mem_of_getElem? tw_w1029, rfl⟩
set_option maxRecDepth 100000 in
set_option maxHeartbeats 4000000 in
theorem tw_m_X0_at {l : Launch} {B : Nat} {D : tw_G} {C : Nat → ClassId} {S : Nat → Nat} {n : Nat} {th : Nat} {x0 : Int32} {σ : tw_Sg} (hth : tw_kd th = 0) {r : Int32} (h : tw_P_X0_at n th x0 σ = some r) : tw_Met l B D C S yX0_at cX0_at 4 (some .int) ({ frames := 1, cells := 0, slots := 0, locals := 22 } : Room) [.ref (B + th), .int x0] σ (some (.int r)) σ := by
  refine tw_metOfP (tw_P_X0_at n th x0 σ) r h (fun r => (some (.int r), σ)) (by decide +kernel) (Nat.le_of_ble_eq_true rfl) ⟨rfl, rfl⟩ ?_
  intro z el eB eD eC eS hfr hlo hcs X hret hQ
  subst el eB eD eC eS
  have X : tw_X z cX0_at "TreasureWalk$Cells" 4 := X
  show tw_Rf z r _ σ 0 [(0, .ref (tw_zB z + th)), (1, .int x0)] []
  unfold tw_P_X0_at
  refine r_iconst X dX0_at_0 (v := (0 : Int32)) (by decide) ?_
  refine r_istore_n X dX0_at_1 rfl (by decide) (LL := fun v1 => [(2, .int v1), (0, .ref (tw_zB z + th)), (1, .int x0)]) (fun _ => rfl) (fun v1 => ?_)
  refine r_iconst X dX0_at_2 (v := (0 : Int32)) (by decide) ?_
  refine r_istore_n X dX0_at_3 rfl (by decide) (LL := fun v2 => [(3, .int v2), (2, .int v1), (0, .ref (tw_zB z + th)), (1, .int x0)]) (fun _ => rfl) (fun v2 => ?_)
  refine r_lp (α := Int32 × Int32) (σJ := fun a3 => σ) (pcJ := 4) (LJ := fun a3 => [(3, .int a3.2), (2, .int a3.1), (0, .ref (tw_zB z + th)), (1, .int x0)]) (stJ := fun a3 => []) (fun k4 hk4 a3 => ?_) n (v1, v2)
  refine r_iload_n X dX0_at_4 rfl 0 rfl ?_
  refine r_sipush X dX0_at_5 (v := (704 : Int32)) (by decide) ?_
  refine r_icmp_ge X dX0_at_8 (tgt := 35) (by decide) ?_ ?_
  ·
    refine r_iconst X dX0_at_35 (v := (0 : Int32)) (by decide) ?_
    exact r_iret X dX0_at_36 hret hQ rfl
  ·
    refine r_aload_n X dX0_at_11 rfl 2 rfl ?_
    refine r_iload_n X dX0_at_12 rfl 0 rfl ?_
    refine r_bd (fun r5 hr5 => ?_)
    refine tw_c_X0_has X dX0_at_13 _ tw_w1031 hth hr5 (tw_le hfr rfl) (tw_le hlo rfl) hcs (Nat.le_of_ble_eq_true rfl) trivial ?_
    refine r_jn (α := Int32) (σJ := fun a6 => σ) (pcJ := 29) (LJ := fun a6 => [(3, .int a3.2), (2, .int a6), (0, .ref (tw_zB z + th)), (1, .int x0)]) (stJ := fun a6 => []) (ok := fun a6 => True) (fun a6 hoka6 => ?_) (fun j7 hj7 => ?_)
    ·
      refine r_iinc X dX0_at_29 0 rfl (v := (1 : Int32)) (by decide) (by decide) (LL := fun v8 => [(3, .int v8), (2, .int a6), (0, .ref (tw_zB z + th)), (1, .int x0)]) (fun _ => rfl) (fun v8 => ?_)
      refine r_goto X dX0_at_32 (tgt := 4) (by decide) ?_
      exact hk4 (a6, v8)
    refine r_if_eq X dX0_at_16 (tgt := 29) (by decide) ?_ ?_
    ·
      exact hj7 a3.1 trivial
    ·
      refine r_iload_n X dX0_at_19 rfl 1 rfl ?_
      refine r_iload_n X dX0_at_20 rfl 3 rfl ?_
      refine r_icmp_ne X dX0_at_21 (tgt := 26) (by decide) ?_ ?_
      ·
        refine r_iinc X dX0_at_26 1 rfl (v := (1 : Int32)) (by decide) (by decide) (LL := fun v9 => [(2, .int v9), (3, .int a3.2), (0, .ref (tw_zB z + th)), (1, .int x0)]) (fun _ => rfl) (fun v9 => ?_)
        exact tw_Rf.sub [1, 0, 2, 3] rfl (hj7 v9 trivial)
      ·
        refine r_iload_n X dX0_at_24 rfl 0 rfl ?_
        exact r_iret X dX0_at_25 hret hQ rfl
theorem tw_c_X0_at {ρ : Type} {z : tw_Z} {cc : ByteArray} {own : String} {nL pc : Nat} {σ : tw_Sg} {L : List (Nat × Value)} {st : List Value} {ix : Nat} {n : Nat} {th : Nat} {x0 : Int32} (X : tw_X z cc own nL) (d : decode cc pc = .ok (.invokevirtual ix, 3)) (i : Nat) (hi : lw_tbl[i]? = some (.methodLink own ix yX0_at)) (hth : tw_kd th = 0) {res : ρ} {E : Option ρ} {r : Int32} (h : tw_P_X0_at n th x0 σ = some r) (h1 : 2 ≤ (tw_zR z).frames) (h2 : 45 ≤ (tw_zR z).locals) (hcs : tw_zcells z ≤ (tw_zR z).cells ∧ tw_zslots z ≤ (tw_zR z).slots) (hst : (st.map fun v => v.category).sum ≤ 8) (_ : True) (kk : tw_Rf z res E σ (pc + 3) L (.int r :: st)) : tw_Rf z res E σ pc L (.int x0 :: .ref (tw_zB z + th) :: st) := r_callV (As := [.int x0]) X d (tw_m_X0_at hth h) tw_y_X0_at tw_v_X0_at i hi rfl (tw_kd_lt hth (by decide)) (tw_E0 hth) rfl ⟨rfl, rfl, h1, h2⟩ hcs hst rfl kk
def tw_P_X0_keepOnly (n : Nat) (th : Nat) (r0 : Nat) (σ : tw_Sg) : Option (tw_Sg) :=
tw_lt (0 : Int32) (fun (v1 : Int32) =>
tw_lp (fun (k3 : (Int32 × tw_Sg) → Option (tw_Sg)) (a2 : Int32 × tw_Sg) =>
tw_jn (fun (a4 : Unit) =>
some a2.2) (fun (j5 : (Unit) → Option (tw_Sg)) =>
if (Int32.ofNat (tw_ln (th + 1))) ≤ a2.1 then (j5 ())
else (if (Int32.ofNat (tw_ln (r0 + 1))) ≤ a2.1 then (j5 ())
else (tw_ck (tw_ok a2.1 (tw_ln (th + 1))) (
tw_ck (tw_ok a2.1 (tw_ln (r0 + 1))) (
tw_ck (tw_ok a2.1 (tw_ln (th + 1))) (tw_lt (tw_up a2.2 (th + 1) (Int32.toNatClampNeg a2.1) ((a2.2 (th + 1) (Int32.toNatClampNeg a2.1)) &&& (a2.2 (r0 + 1) (Int32.toNatClampNeg a2.1)))) (fun (σ6 : tw_Sg) =>
tw_lt (a2.1 + (1 : Int32)) (fun (v7 : Int32) =>
k3 (v7, σ6)))))))))) n (v1, σ))
theorem tw_y_X0_keepOnly : tw_My yX0_keepOnly cX0_keepOnly 3 none 1 := ⟨List.mem_of_getElem? tw_w1194, List.mem_of_getElem? tw_w38, by decide +kernel, by decide +kernel, by decide +kernel⟩
theorem tw_v_X0_keepOnly : tw_Mv yX0_keepOnly "TreasureWalk$Cells" := ⟨List.mem_of_getElem? tw_w1192, List.mem_of_getElem? tw_w1193, rfl⟩
set_option maxRecDepth 100000 in
set_option maxHeartbeats 4000000 in
theorem tw_m_X0_keepOnly {l : Launch} {B : Nat} {D : tw_G} {C : Nat → ClassId} {S : Nat → Nat} {n : Nat} {th : Nat} {r0 : Nat} {σ : tw_Sg} (hth : tw_kd th = 0) (hr0 : tw_kd r0 = 0) {r : tw_Sg} (h : tw_P_X0_keepOnly n th r0 σ = some r) : tw_Met l B D C S yX0_keepOnly cX0_keepOnly 3 none ({ frames := 0, cells := 0, slots := 0, locals := 0 } : Room) [.ref (B + th), .ref (B + r0)] σ (none) r := by
  refine tw_metOfP (tw_P_X0_keepOnly n th r0 σ) r h (fun r => (none, r)) (by decide +kernel) (Nat.le_of_ble_eq_true rfl) ⟨rfl, rfl⟩ ?_
  intro z el eB eD eC eS hfr hlo hcs X hret hQ
  subst el eB eD eC eS
  have X : tw_X z cX0_keepOnly "TreasureWalk$Cells" 3 := X
  show tw_Rf z r _ σ 0 [(0, .ref (tw_zB z + th)), (1, .ref (tw_zB z + r0))] []
  unfold tw_P_X0_keepOnly
  refine r_iconst X dX0_keepOnly_0 (v := (0 : Int32)) (by decide) ?_
  refine r_istore_n X dX0_keepOnly_1 rfl (by decide) (LL := fun v1 => [(2, .int v1), (0, .ref (tw_zB z + th)), (1, .ref (tw_zB z + r0))]) (fun _ => rfl) (fun v1 => ?_)
  refine r_lp (α := Int32 × tw_Sg) (σJ := fun a2 => a2.2) (pcJ := 2) (LJ := fun a2 => [(2, .int a2.1), (0, .ref (tw_zB z + th)), (1, .ref (tw_zB z + r0))]) (stJ := fun a2 => []) (fun k3 hk3 a2 => ?_) n (v1, σ)
  refine r_iload_n X dX0_keepOnly_2 rfl 0 rfl ?_
  refine r_aload_n X dX0_keepOnly_3 rfl 1 rfl ?_
  refine tw_g0_0 (k := th) (v := .ref (tw_zB z + (th + 1))) X dX0_keepOnly_4 _ tw_w90 hth rfl ?_
  refine r_alenI (k := (th + 1)) X dX0_keepOnly_7 (tw_k0_0 hth) rfl ?_
  refine r_jn (α := Unit) (σJ := fun a4 => a2.2) (pcJ := 41) (LJ := fun a4 => []) (stJ := fun a4 => []) (ok := fun a4 => True) (fun a4 hoka4 => ?_) (fun j5 hj5 => ?_)
  ·
    exact r_vret X dX0_keepOnly_41 hret hQ rfl
  refine r_icmp_ge X dX0_keepOnly_8 (tgt := 41) (by decide) ?_ ?_
  ·
    exact tw_Rf.sub [] rfl (hj5 () trivial)
  ·
    refine r_iload_n X dX0_keepOnly_11 rfl 0 rfl ?_
    refine r_aload_n X dX0_keepOnly_12 rfl 2 rfl ?_
    refine tw_g0_0 (k := r0) (v := .ref (tw_zB z + (r0 + 1))) X dX0_keepOnly_13 _ tw_w90 hr0 rfl ?_
    refine r_alenI (k := (r0 + 1)) X dX0_keepOnly_16 (tw_k0_0 hr0) rfl ?_
    refine r_icmp_ge X dX0_keepOnly_17 (tgt := 41) (by decide) ?_ ?_
    ·
      exact tw_Rf.sub [] rfl (hj5 () trivial)
    ·
      refine r_aload_n X dX0_keepOnly_20 rfl 1 rfl ?_
      refine tw_g0_0 (k := th) (v := .ref (tw_zB z + (th + 1))) X dX0_keepOnly_21 _ tw_w90 hth rfl ?_
      refine r_iload_n X dX0_keepOnly_24 rfl 0 rfl ?_
      refine r_dup2 X dX0_keepOnly_25 rfl rfl ?_
      refine r_iald (k := (th + 1)) X dX0_keepOnly_26 (tw_k0_0 hth) ?_
      refine r_aload_n X dX0_keepOnly_27 rfl 2 rfl ?_
      refine tw_g0_0 (k := r0) (v := .ref (tw_zB z + (r0 + 1))) X dX0_keepOnly_28 _ tw_w90 hr0 rfl ?_
      refine r_iload_n X dX0_keepOnly_31 rfl 0 rfl ?_
      refine r_iald (k := (r0 + 1)) X dX0_keepOnly_32 (tw_k0_0 hr0) ?_
      refine r_iand X dX0_keepOnly_33 ?_
      refine r_iast (k := (th + 1)) X dX0_keepOnly_34 (tw_k0_0 hth) (fun σ6 => ?_)
      refine r_iinc X dX0_keepOnly_35 0 rfl (v := (1 : Int32)) (by decide) (by decide) (LL := fun v7 => [(2, .int v7), (0, .ref (tw_zB z + th)), (1, .ref (tw_zB z + r0))]) (fun _ => rfl) (fun v7 => ?_)
      refine r_goto X dX0_keepOnly_38 (tgt := 2) (by decide) ?_
      exact hk3 (v7, σ6)
theorem tw_c_X0_keepOnly {ρ : Type} {z : tw_Z} {cc : ByteArray} {own : String} {nL pc : Nat} {σ : tw_Sg} {L : List (Nat × Value)} {st : List Value} {ix : Nat} {n : Nat} {th : Nat} {r0 : Nat} (X : tw_X z cc own nL) (d : decode cc pc = .ok (.invokevirtual ix, 3)) (i : Nat) (hi : lw_tbl[i]? = some (.methodLink own ix yX0_keepOnly)) (hth : tw_kd th = 0) (hr0 : tw_kd r0 = 0) {res : ρ} {E : Option ρ} {r : tw_Sg} (h : tw_P_X0_keepOnly n th r0 σ = some r) (h1 : 1 ≤ (tw_zR z).frames) (h2 : 22 ≤ (tw_zR z).locals) (hcs : tw_zcells z ≤ (tw_zR z).cells ∧ tw_zslots z ≤ (tw_zR z).slots) (hst : (st.map fun v => v.category).sum ≤ 8) (_ : True) (kk : tw_Rf z res E r (pc + 3) L (st)) : tw_Rf z res E σ pc L (.ref (tw_zB z + r0) :: .ref (tw_zB z + th) :: st) := r_callV (As := [.ref (tw_zB z + r0)]) X d (tw_m_X0_keepOnly hth hr0 h) tw_y_X0_keepOnly tw_v_X0_keepOnly i hi rfl (tw_kd_lt hth (by decide)) (tw_E0 hth) rfl ⟨rfl, rfl, h1, h2⟩ hcs hst rfl kk
def tw_P_X0_removeAll (n : Nat) (th : Nat) (r0 : Nat) (σ : tw_Sg) : Option (tw_Sg) :=
tw_lt (0 : Int32) (fun (v1 : Int32) =>
tw_lp (fun (k3 : (Int32 × tw_Sg) → Option (tw_Sg)) (a2 : Int32 × tw_Sg) =>
tw_jn (fun (a4 : Unit) =>
some a2.2) (fun (j5 : (Unit) → Option (tw_Sg)) =>
if (Int32.ofNat (tw_ln (th + 1))) ≤ a2.1 then (j5 ())
else (if (Int32.ofNat (tw_ln (r0 + 1))) ≤ a2.1 then (j5 ())
else (tw_ck (tw_ok a2.1 (tw_ln (th + 1))) (
tw_ck (tw_ok a2.1 (tw_ln (r0 + 1))) (
tw_ck (tw_ok a2.1 (tw_ln (th + 1))) (tw_lt (tw_up a2.2 (th + 1) (Int32.toNatClampNeg a2.1) ((a2.2 (th + 1) (Int32.toNatClampNeg a2.1)) &&& ((a2.2 (r0 + 1) (Int32.toNatClampNeg a2.1)) ^^^ (-1 : Int32)))) (fun (σ6 : tw_Sg) =>
tw_lt (a2.1 + (1 : Int32)) (fun (v7 : Int32) =>
k3 (v7, σ6)))))))))) n (v1, σ))
theorem tw_y_X0_removeAll : tw_My yX0_removeAll cX0_removeAll 3 none 1 := ⟨List.mem_of_getElem? tw_w1198, List.mem_of_getElem? tw_w38, by decide +kernel, by decide +kernel, by decide +kernel⟩
theorem tw_v_X0_removeAll : tw_Mv yX0_removeAll "TreasureWalk$Cells" := ⟨List.mem_of_getElem? tw_w1196, List.mem_of_getElem? tw_w1197, rfl⟩
set_option maxRecDepth 100000 in
set_option maxHeartbeats 4000000 in
theorem tw_m_X0_removeAll {l : Launch} {B : Nat} {D : tw_G} {C : Nat → ClassId} {S : Nat → Nat} {n : Nat} {th : Nat} {r0 : Nat} {σ : tw_Sg} (hth : tw_kd th = 0) (hr0 : tw_kd r0 = 0) {r : tw_Sg} (h : tw_P_X0_removeAll n th r0 σ = some r) : tw_Met l B D C S yX0_removeAll cX0_removeAll 3 none ({ frames := 0, cells := 0, slots := 0, locals := 0 } : Room) [.ref (B + th), .ref (B + r0)] σ (none) r := by
  refine tw_metOfP (tw_P_X0_removeAll n th r0 σ) r h (fun r => (none, r)) (by decide +kernel) (Nat.le_of_ble_eq_true rfl) ⟨rfl, rfl⟩ ?_
  intro z el eB eD eC eS hfr hlo hcs X hret hQ
  subst el eB eD eC eS
  have X : tw_X z cX0_removeAll "TreasureWalk$Cells" 3 := X
  show tw_Rf z r _ σ 0 [(0, .ref (tw_zB z + th)), (1, .ref (tw_zB z + r0))] []
  unfold tw_P_X0_removeAll
  refine r_iconst X dX0_removeAll_0 (v := (0 : Int32)) (by decide) ?_
  refine r_istore_n X dX0_removeAll_1 rfl (by decide) (LL := fun v1 => [(2, .int v1), (0, .ref (tw_zB z + th)), (1, .ref (tw_zB z + r0))]) (fun _ => rfl) (fun v1 => ?_)
  refine r_lp (α := Int32 × tw_Sg) (σJ := fun a2 => a2.2) (pcJ := 2) (LJ := fun a2 => [(2, .int a2.1), (0, .ref (tw_zB z + th)), (1, .ref (tw_zB z + r0))]) (stJ := fun a2 => []) (fun k3 hk3 a2 => ?_) n (v1, σ)
  refine r_iload_n X dX0_removeAll_2 rfl 0 rfl ?_
  refine r_aload_n X dX0_removeAll_3 rfl 1 rfl ?_
  refine tw_g0_0 (k := th) (v := .ref (tw_zB z + (th + 1))) X dX0_removeAll_4 _ tw_w90 hth rfl ?_
  refine r_alenI (k := (th + 1)) X dX0_removeAll_7 (tw_k0_0 hth) rfl ?_
  refine r_jn (α := Unit) (σJ := fun a4 => a2.2) (pcJ := 43) (LJ := fun a4 => []) (stJ := fun a4 => []) (ok := fun a4 => True) (fun a4 hoka4 => ?_) (fun j5 hj5 => ?_)
  ·
    exact r_vret X dX0_removeAll_43 hret hQ rfl
  refine r_icmp_ge X dX0_removeAll_8 (tgt := 43) (by decide) ?_ ?_
  ·
    exact tw_Rf.sub [] rfl (hj5 () trivial)
  ·
    refine r_iload_n X dX0_removeAll_11 rfl 0 rfl ?_
    refine r_aload_n X dX0_removeAll_12 rfl 2 rfl ?_
    refine tw_g0_0 (k := r0) (v := .ref (tw_zB z + (r0 + 1))) X dX0_removeAll_13 _ tw_w90 hr0 rfl ?_
    refine r_alenI (k := (r0 + 1)) X dX0_removeAll_16 (tw_k0_0 hr0) rfl ?_
    refine r_icmp_ge X dX0_removeAll_17 (tgt := 43) (by decide) ?_ ?_
    ·
      exact tw_Rf.sub [] rfl (hj5 () trivial)
    ·
      refine r_aload_n X dX0_removeAll_20 rfl 1 rfl ?_
      refine tw_g0_0 (k := th) (v := .ref (tw_zB z + (th + 1))) X dX0_removeAll_21 _ tw_w90 hth rfl ?_
      refine r_iload_n X dX0_removeAll_24 rfl 0 rfl ?_
      refine r_dup2 X dX0_removeAll_25 rfl rfl ?_
      refine r_iald (k := (th + 1)) X dX0_removeAll_26 (tw_k0_0 hth) ?_
      refine r_aload_n X dX0_removeAll_27 rfl 2 rfl ?_
      refine tw_g0_0 (k := r0) (v := .ref (tw_zB z + (r0 + 1))) X dX0_removeAll_28 _ tw_w90 hr0 rfl ?_
      refine r_iload_n X dX0_removeAll_31 rfl 0 rfl ?_
      refine r_iald (k := (r0 + 1)) X dX0_removeAll_32 (tw_k0_0 hr0) ?_
      refine r_iconst X dX0_removeAll_33 (v := (-1 : Int32)) (by decide) ?_
      refine r_ixor X dX0_removeAll_34 ?_
      refine r_iand X dX0_removeAll_35 ?_
      refine r_iast (k := (th + 1)) X dX0_removeAll_36 (tw_k0_0 hth) (fun σ6 => ?_)
      refine r_iinc X dX0_removeAll_37 0 rfl (v := (1 : Int32)) (by decide) (by decide) (LL := fun v7 => [(2, .int v7), (0, .ref (tw_zB z + th)), (1, .ref (tw_zB z + r0))]) (fun _ => rfl) (fun v7 => ?_)
      refine r_goto X dX0_removeAll_40 (tgt := 2) (by decide) ?_
      exact hk3 (v7, σ6)
theorem tw_c_X0_removeAll {ρ : Type} {z : tw_Z} {cc : ByteArray} {own : String} {nL pc : Nat} {σ : tw_Sg} {L : List (Nat × Value)} {st : List Value} {ix : Nat} {n : Nat} {th : Nat} {r0 : Nat} (X : tw_X z cc own nL) (d : decode cc pc = .ok (.invokevirtual ix, 3)) (i : Nat) (hi : lw_tbl[i]? = some (.methodLink own ix yX0_removeAll)) (hth : tw_kd th = 0) (hr0 : tw_kd r0 = 0) {res : ρ} {E : Option ρ} {r : tw_Sg} (h : tw_P_X0_removeAll n th r0 σ = some r) (h1 : 1 ≤ (tw_zR z).frames) (h2 : 22 ≤ (tw_zR z).locals) (hcs : tw_zcells z ≤ (tw_zR z).cells ∧ tw_zslots z ≤ (tw_zR z).slots) (hst : (st.map fun v => v.category).sum ≤ 8) (_ : True) (kk : tw_Rf z res E r (pc + 3) L (st)) : tw_Rf z res E σ pc L (.ref (tw_zB z + r0) :: .ref (tw_zB z + th) :: st) := r_callV (As := [.ref (tw_zB z + r0)]) X d (tw_m_X0_removeAll hth hr0 h) tw_y_X0_removeAll tw_v_X0_removeAll i hi rfl (tw_kd_lt hth (by decide)) (tw_E0 hth) rfl ⟨rfl, rfl, h1, h2⟩ hcs hst rfl kk
def tw_P_X0_copyFrom (th : Nat) (r0 : Nat) (σ : tw_Sg) : Option (tw_Sg) :=
tw_ck (tw_cpo (0 : Int32) (0 : Int32) (if (Int32.ofNat (tw_ln (r0 + 1))) < (Int32.ofNat (tw_ln (th + 1))) then (Int32.ofNat (tw_ln (r0 + 1))) else (Int32.ofNat (tw_ln (th + 1)))) (tw_ln (r0 + 1)) (tw_ln (th + 1))) (tw_lt (tw_upA σ (th + 1) (va_cpy (σ (r0 + 1)) (σ (th + 1)) (Int32.toNatClampNeg (0 : Int32)) (Int32.toNatClampNeg (0 : Int32)) (Int32.toNatClampNeg (if (Int32.ofNat (tw_ln (r0 + 1))) < (Int32.ofNat (tw_ln (th + 1))) then (Int32.ofNat (tw_ln (r0 + 1))) else (Int32.ofNat (tw_ln (th + 1))))))) (fun (σ1 : tw_Sg) =>
some σ1))
theorem tw_y_X0_copyFrom : tw_My yX0_copyFrom cX0_copyFrom 2 none 1 := ⟨List.mem_of_getElem? tw_w476, List.mem_of_getElem? tw_w38, by decide +kernel, by decide +kernel, by decide +kernel⟩
theorem tw_v_X0_copyFrom : tw_Mv yX0_copyFrom "TreasureWalk$Cells" := ⟨List.mem_of_getElem? tw_w474, List.mem_of_getElem? tw_w475, rfl⟩
set_option maxRecDepth 100000 in
set_option maxHeartbeats 4000000 in
theorem tw_m_X0_copyFrom {l : Launch} {B : Nat} {D : tw_G} {C : Nat → ClassId} {S : Nat → Nat} {th : Nat} {r0 : Nat} {σ : tw_Sg} (hth : tw_kd th = 0) (hr0 : tw_kd r0 = 0) {r : tw_Sg} (h : tw_P_X0_copyFrom th r0 σ = some r) : tw_Met l B D C S yX0_copyFrom cX0_copyFrom 2 none ({ frames := 1, cells := 0, slots := 0, locals := 60 } : Room) [.ref (B + th), .ref (B + r0)] σ (none) r := by
  refine tw_metOfP (tw_P_X0_copyFrom th r0 σ) r h (fun r => (none, r)) (by decide +kernel) (Nat.le_of_ble_eq_true rfl) ⟨rfl, rfl⟩ ?_
  intro z el eB eD eC eS hfr hlo hcs X hret hQ
  subst el eB eD eC eS
  have X : tw_X z cX0_copyFrom "TreasureWalk$Cells" 2 := X
  show tw_Rf z r _ σ 0 [(0, .ref (tw_zB z + th)), (1, .ref (tw_zB z + r0))] []
  unfold tw_P_X0_copyFrom
  refine r_aload_n X dX0_copyFrom_0 rfl 1 rfl ?_
  refine tw_g0_0 (k := r0) (v := .ref (tw_zB z + (r0 + 1))) X dX0_copyFrom_1 _ tw_w90 hr0 rfl ?_
  refine r_iconst X dX0_copyFrom_4 (v := (0 : Int32)) (by decide) ?_
  refine r_aload_n X dX0_copyFrom_5 rfl 0 rfl ?_
  refine tw_g0_0 (k := th) (v := .ref (tw_zB z + (th + 1))) X dX0_copyFrom_6 _ tw_w90 hth rfl ?_
  refine r_iconst X dX0_copyFrom_9 (v := (0 : Int32)) (by decide) ?_
  refine r_aload_n X dX0_copyFrom_10 rfl 0 rfl ?_
  refine tw_g0_0 (k := th) (v := .ref (tw_zB z + (th + 1))) X dX0_copyFrom_11 _ tw_w90 hth rfl ?_
  refine r_alenI (k := (th + 1)) X dX0_copyFrom_14 (tw_k0_0 hth) rfl ?_
  refine r_aload_n X dX0_copyFrom_15 rfl 1 rfl ?_
  refine tw_g0_0 (k := r0) (v := .ref (tw_zB z + (r0 + 1))) X dX0_copyFrom_16 _ tw_w90 hr0 rfl ?_
  refine r_alenI (k := (r0 + 1)) X dX0_copyFrom_19 (tw_k0_0 hr0) rfl ?_
  refine tw_mmin X dX0_copyFrom_20 _ tw_w477 (tw_le hfr rfl) (tw_le hlo rfl) hcs ?_
  refine tw_acopy (k0 := (r0 + 1)) (k1 := (th + 1)) X dX0_copyFrom_23 _ tw_w480 (tw_k0_0 hr0) (tw_k0_0 hth) (tw_le hfr rfl) (tw_le hlo rfl) (fun σ1 => ?_)
  exact r_vret X dX0_copyFrom_26 hret hQ rfl
theorem tw_c_X0_copyFrom {ρ : Type} {z : tw_Z} {cc : ByteArray} {own : String} {nL pc : Nat} {σ : tw_Sg} {L : List (Nat × Value)} {st : List Value} {ix : Nat} {th : Nat} {r0 : Nat} (X : tw_X z cc own nL) (d : decode cc pc = .ok (.invokevirtual ix, 3)) (i : Nat) (hi : lw_tbl[i]? = some (.methodLink own ix yX0_copyFrom)) (hth : tw_kd th = 0) (hr0 : tw_kd r0 = 0) {res : ρ} {E : Option ρ} {r : tw_Sg} (h : tw_P_X0_copyFrom th r0 σ = some r) (h1 : 2 ≤ (tw_zR z).frames) (h2 : 81 ≤ (tw_zR z).locals) (hcs : tw_zcells z ≤ (tw_zR z).cells ∧ tw_zslots z ≤ (tw_zR z).slots) (hst : (st.map fun v => v.category).sum ≤ 8) (_ : True) (kk : tw_Rf z res E r (pc + 3) L (st)) : tw_Rf z res E σ pc L (.ref (tw_zB z + r0) :: .ref (tw_zB z + th) :: st) := r_callV (As := [.ref (tw_zB z + r0)]) X d (tw_m_X0_copyFrom hth hr0 h) tw_y_X0_copyFrom tw_v_X0_copyFrom i hi rfl (tw_kd_lt hth (by decide)) (tw_E0 hth) rfl ⟨rfl, rfl, h1, h2⟩ hcs hst rfl kk
def tw_P_X7_fill (n : Nat) (th : Nat) (x0 : Int32) (σ : tw_Sg) : Option (tw_Sg) :=
tw_bd (tw_P_J7_fill_53178 n (th + 1) x0 σ) (fun r1 =>
some r1)
theorem tw_y_X7_fill : tw_My yX7_fill cX7_fill 2 none 1 := ⟨List.mem_of_getElem? tw_w256, List.mem_of_getElem? tw_w39, by decide +kernel, by decide +kernel, by decide +kernel⟩
theorem tw_v_X7_fill : tw_Mv yX7_fill "TreasureWalk$Row" := ⟨List.mem_of_getElem? tw_w254, List.mem_of_getElem? tw_w255, rfl⟩
set_option maxRecDepth 100000 in
set_option maxHeartbeats 4000000 in
theorem tw_m_X7_fill {l : Launch} {B : Nat} {D : tw_G} {C : Nat → ClassId} {S : Nat → Nat} {n : Nat} {th : Nat} {x0 : Int32} {σ : tw_Sg} (hth : tw_kd th = 7) {r : tw_Sg} (h : tw_P_X7_fill n th x0 σ = some r) : tw_Met l B D C S yX7_fill cX7_fill 2 none ({ frames := 1, cells := 0, slots := 0, locals := 23 } : Room) [.ref (B + th), .int x0] σ (none) r := by
  refine tw_metOfP (tw_P_X7_fill n th x0 σ) r h (fun r => (none, r)) (by decide +kernel) (Nat.le_of_ble_eq_true rfl) ⟨rfl, rfl⟩ ?_
  intro z el eB eD eC eS hfr hlo hcs X hret hQ
  subst el eB eD eC eS
  have X : tw_X z cX7_fill "TreasureWalk$Row" 2 := X
  show tw_Rf z r _ σ 0 [(0, .ref (tw_zB z + th)), (1, .int x0)] []
  unfold tw_P_X7_fill
  refine r_aload_n X dX7_fill_0 rfl 0 rfl ?_
  refine tw_g7_0 (k := th) (v := .ref (tw_zB z + (th + 1))) X dX7_fill_1 _ tw_w101 hth rfl ?_
  refine r_iload_n X dX7_fill_4 rfl 1 rfl ?_
  refine r_bd (fun r1 hr1 => ?_)
  refine tw_c_J7_fill_53178 X dX7_fill_5 _ tw_w257 (tw_k7_0 hth) hr1 (tw_le hfr rfl) (tw_le hlo rfl) hcs (Nat.le_of_ble_eq_true rfl) trivial ?_
  exact r_vret X dX7_fill_8 hret hQ rfl
theorem tw_c_X7_fill {ρ : Type} {z : tw_Z} {cc : ByteArray} {own : String} {nL pc : Nat} {σ : tw_Sg} {L : List (Nat × Value)} {st : List Value} {ix : Nat} {n : Nat} {th : Nat} {x0 : Int32} (X : tw_X z cc own nL) (d : decode cc pc = .ok (.invokevirtual ix, 3)) (i : Nat) (hi : lw_tbl[i]? = some (.methodLink own ix yX7_fill)) (hth : tw_kd th = 7) {res : ρ} {E : Option ρ} {r : tw_Sg} (h : tw_P_X7_fill n th x0 σ = some r) (h1 : 2 ≤ (tw_zR z).frames) (h2 : 44 ≤ (tw_zR z).locals) (hcs : tw_zcells z ≤ (tw_zR z).cells ∧ tw_zslots z ≤ (tw_zR z).slots) (hst : (st.map fun v => v.category).sum ≤ 8) (_ : True) (kk : tw_Rf z res E r (pc + 3) L (st)) : tw_Rf z res E σ pc L (.int x0 :: .ref (tw_zB z + th) :: st) := r_callV (As := [.int x0]) X d (tw_m_X7_fill hth h) tw_y_X7_fill tw_v_X7_fill i hi rfl (tw_kd_lt hth (by decide)) (tw_E7 hth) rfl ⟨rfl, rfl, h1, h2⟩ hcs hst rfl kk
def tw_P_X1_clear (n : Nat) (th : Nat) (σ : tw_Sg) : Option (tw_Sg) :=
tw_lt (tw_up σ th 0 (0 : Int32)) (fun (σ1 : tw_Sg) =>
tw_bd (tw_P_X7_fill n (th + 3) (0 : Int32) σ1) (fun r2 =>
tw_bd (tw_P_X7_fill n (th + 7) (0 : Int32) r2) (fun r3 =>
some r3)))
theorem tw_y_X1_clear : tw_My yX1_clear cX1_clear 1 none 0 := ⟨List.mem_of_getElem? tw_w261, List.mem_of_getElem? tw_w40, by decide +kernel, by decide +kernel, by decide +kernel⟩
theorem tw_v_X1_clear : tw_Mv yX1_clear "TreasureWalk$Clues" := ⟨List.mem_of_getElem? tw_w259, List.mem_of_getElem? tw_w260, rfl⟩
set_option maxRecDepth 100000 in
set_option maxHeartbeats 4000000 in
theorem tw_m_X1_clear {l : Launch} {B : Nat} {D : tw_G} {C : Nat → ClassId} {S : Nat → Nat} {n : Nat} {th : Nat} {σ : tw_Sg} (hth : tw_kd th = 1) {r : tw_Sg} (h : tw_P_X1_clear n th σ = some r) : tw_Met l B D C S yX1_clear cX1_clear 1 none ({ frames := 2, cells := 0, slots := 0, locals := 44 } : Room) [.ref (B + th)] σ (none) r := by
  refine tw_metOfP (tw_P_X1_clear n th σ) r h (fun r => (none, r)) (by decide +kernel) (Nat.le_of_ble_eq_true rfl) ⟨rfl, rfl⟩ ?_
  intro z el eB eD eC eS hfr hlo hcs X hret hQ
  subst el eB eD eC eS
  have X : tw_X z cX1_clear "TreasureWalk$Clues" 1 := X
  show tw_Rf z r _ σ 0 [(0, .ref (tw_zB z + th))] []
  unfold tw_P_X1_clear
  refine r_aload_n X dX1_clear_0 rfl 0 rfl ?_
  refine r_iconst X dX1_clear_1 (v := (0 : Int32)) (by decide) ?_
  refine tw_s1_0 (k := th) X dX1_clear_2 _ tw_w113 hth (fun σ1 => ?_)
  refine r_aload_n X dX1_clear_5 rfl 0 rfl ?_
  refine tw_g1_2 (k := th) (v := .ref (tw_zB z + (th + 3))) X dX1_clear_6 _ tw_w121 hth rfl ?_
  refine r_iconst X dX1_clear_9 (v := (0 : Int32)) (by decide) ?_
  refine r_bd (fun r2 hr2 => ?_)
  refine tw_c_X7_fill X dX1_clear_10 _ tw_w262 (tw_k1_2 hth) hr2 (tw_le hfr rfl) (tw_le hlo rfl) hcs (Nat.le_of_ble_eq_true rfl) trivial ?_
  refine r_aload_n X dX1_clear_13 rfl 0 rfl ?_
  refine tw_g1_4 (k := th) (v := .ref (tw_zB z + (th + 7))) X dX1_clear_14 _ tw_w124 hth rfl ?_
  refine r_iconst X dX1_clear_17 (v := (0 : Int32)) (by decide) ?_
  refine r_bd (fun r3 hr3 => ?_)
  refine tw_c_X7_fill X dX1_clear_18 _ tw_w262 (tw_k1_4 hth) hr3 (tw_le hfr rfl) (tw_le hlo rfl) hcs (Nat.le_of_ble_eq_true rfl) trivial ?_
  exact r_vret X dX1_clear_21 hret hQ rfl
theorem tw_c_X1_clear {ρ : Type} {z : tw_Z} {cc : ByteArray} {own : String} {nL pc : Nat} {σ : tw_Sg} {L : List (Nat × Value)} {st : List Value} {ix : Nat} {n : Nat} {th : Nat} (X : tw_X z cc own nL) (d : decode cc pc = .ok (.invokevirtual ix, 3)) (i : Nat) (hi : lw_tbl[i]? = some (.methodLink own ix yX1_clear)) (hth : tw_kd th = 1) {res : ρ} {E : Option ρ} {r : tw_Sg} (h : tw_P_X1_clear n th σ = some r) (h1 : 3 ≤ (tw_zR z).frames) (h2 : 64 ≤ (tw_zR z).locals) (hcs : tw_zcells z ≤ (tw_zR z).cells ∧ tw_zslots z ≤ (tw_zR z).slots) (hst : (st.map fun v => v.category).sum ≤ 8) (_ : True) (kk : tw_Rf z res E r (pc + 3) L (st)) : tw_Rf z res E σ pc L (.ref (tw_zB z + th) :: st) := r_callV (As := []) X d (tw_m_X1_clear hth h) tw_y_X1_clear tw_v_X1_clear i hi rfl (tw_kd_lt hth (by decide)) (tw_E1 hth) rfl ⟨rfl, rfl, h1, h2⟩ hcs hst rfl kk
def tw_P_X7_get (th : Nat) (x0 : Int32) (σ : tw_Sg) : Option (Int32) :=
tw_jn (fun (a1 : Int32) =>
some a1) (fun (j2 : (Int32) → Option (Int32)) =>
tw_jn (fun (a3 : Unit) =>
j2 (0 : Int32)) (fun (j4 : (Unit) → Option (Int32)) =>
if x0 < 0 then (j4 ())
else (if (Int32.ofNat (tw_ln (th + 1))) ≤ x0 then (j4 ())
else (tw_ck (tw_ok x0 (tw_ln (th + 1))) (
j2 (σ (th + 1) (Int32.toNatClampNeg x0)))))))
theorem tw_y_X7_get : tw_My yX7_get cX7_get 2 (some .int) 1 := ⟨List.mem_of_getElem? tw_w520, List.mem_of_getElem? tw_w39, by decide +kernel, by decide +kernel, by decide +kernel⟩
theorem tw_v_X7_get : tw_Mv yX7_get "TreasureWalk$Row" := ⟨List.mem_of_getElem? tw_w518, List.mem_of_getElem? tw_w519, rfl⟩
set_option maxRecDepth 100000 in
set_option maxHeartbeats 4000000 in
theorem tw_m_X7_get {l : Launch} {B : Nat} {D : tw_G} {C : Nat → ClassId} {S : Nat → Nat} {th : Nat} {x0 : Int32} {σ : tw_Sg} (hth : tw_kd th = 7) {r : Int32} (h : tw_P_X7_get th x0 σ = some r) : tw_Met l B D C S yX7_get cX7_get 2 (some .int) ({ frames := 0, cells := 0, slots := 0, locals := 0 } : Room) [.ref (B + th), .int x0] σ (some (.int r)) σ := by
  refine tw_metOfP (tw_P_X7_get th x0 σ) r h (fun r => (some (.int r), σ)) (by decide +kernel) (Nat.le_of_ble_eq_true rfl) ⟨rfl, rfl⟩ ?_
  intro z el eB eD eC eS hfr hlo hcs X hret hQ
  subst el eB eD eC eS
  have X : tw_X z cX7_get "TreasureWalk$Row" 2 := X
  show tw_Rf z r _ σ 0 [(0, .ref (tw_zB z + th)), (1, .int x0)] []
  unfold tw_P_X7_get
  refine r_iload_n X dX7_get_0 rfl 1 rfl ?_
  refine r_jn (α := Int32) (σJ := fun a1 => σ) (pcJ := 23) (LJ := fun a1 => []) (stJ := fun a1 => [.int a1]) (ok := fun a1 => True) (fun a1 hoka1 => ?_) (fun j2 hj2 => ?_)
  ·
    exact r_iret X dX7_get_23 hret hQ rfl
  refine r_jn (α := Unit) (σJ := fun a3 => σ) (pcJ := 22) (LJ := fun a3 => []) (stJ := fun a3 => []) (ok := fun a3 => True) (fun a3 hoka3 => ?_) (fun j4 hj4 => ?_)
  ·
    refine r_iconst X dX7_get_22 (v := (0 : Int32)) (by decide) ?_
    exact hj2 (0 : Int32) trivial
  refine r_if_lt X dX7_get_1 (tgt := 22) (by decide) ?_ ?_
  ·
    exact tw_Rf.sub [] rfl (hj4 () trivial)
  ·
    refine r_iload_n X dX7_get_4 rfl 1 rfl ?_
    refine r_aload_n X dX7_get_5 rfl 0 rfl ?_
    refine tw_g7_0 (k := th) (v := .ref (tw_zB z + (th + 1))) X dX7_get_6 _ tw_w101 hth rfl ?_
    refine r_alenI (k := (th + 1)) X dX7_get_9 (tw_k7_0 hth) rfl ?_
    refine r_icmp_ge X dX7_get_10 (tgt := 22) (by decide) ?_ ?_
    ·
      exact tw_Rf.sub [] rfl (hj4 () trivial)
    ·
      refine r_aload_n X dX7_get_13 rfl 0 rfl ?_
      refine tw_g7_0 (k := th) (v := .ref (tw_zB z + (th + 1))) X dX7_get_14 _ tw_w101 hth rfl ?_
      refine r_iload_n X dX7_get_17 rfl 1 rfl ?_
      refine r_iald (k := (th + 1)) X dX7_get_18 (tw_k7_0 hth) ?_
      refine r_goto X dX7_get_19 (tgt := 23) (by decide) ?_
      exact tw_Rf.sub [] rfl (hj2 (σ (th + 1) (Int32.toNatClampNeg x0)) trivial)
theorem tw_c_X7_get {ρ : Type} {z : tw_Z} {cc : ByteArray} {own : String} {nL pc : Nat} {σ : tw_Sg} {L : List (Nat × Value)} {st : List Value} {ix : Nat} {th : Nat} {x0 : Int32} (X : tw_X z cc own nL) (d : decode cc pc = .ok (.invokevirtual ix, 3)) (i : Nat) (hi : lw_tbl[i]? = some (.methodLink own ix yX7_get)) (hth : tw_kd th = 7) {res : ρ} {E : Option ρ} {r : Int32} (h : tw_P_X7_get th x0 σ = some r) (h1 : 1 ≤ (tw_zR z).frames) (h2 : 21 ≤ (tw_zR z).locals) (hcs : tw_zcells z ≤ (tw_zR z).cells ∧ tw_zslots z ≤ (tw_zR z).slots) (hst : (st.map fun v => v.category).sum ≤ 8) (_ : True) (kk : tw_Rf z res E σ (pc + 3) L (.int r :: st)) : tw_Rf z res E σ pc L (.int x0 :: .ref (tw_zB z + th) :: st) := r_callV (As := [.int x0]) X d (tw_m_X7_get hth h) tw_y_X7_get tw_v_X7_get i hi rfl (tw_kd_lt hth (by decide)) (tw_E7 hth) rfl ⟨rfl, rfl, h1, h2⟩ hcs hst rfl kk
def tw_P_X1_isUsed (th : Nat) (x0 : Int32) (σ : tw_Sg) : Option (Int32) :=
tw_bd (tw_P_X7_get (th + 1) x0 σ) (fun r1 =>
tw_jn (fun (a2 : Int32) =>
tw_ck (tw_01 a2) (some a2)) (fun (j3 : (Int32) → Option (Int32)) =>
if ¬ r1 = (1 : Int32) then (j3 (0 : Int32))
else (j3 (1 : Int32))))
theorem tw_y_X1_isUsed : tw_My yX1_isUsed cX1_isUsed 2 (some .boolean) 1 := ⟨List.mem_of_getElem? tw_w1189, List.mem_of_getElem? tw_w40, by decide +kernel, by decide +kernel, by decide +kernel⟩
theorem tw_v_X1_isUsed : tw_Mv yX1_isUsed "TreasureWalk$Clues" := ⟨List.mem_of_getElem? tw_w1187, List.mem_of_getElem? tw_w1188, rfl⟩
set_option maxRecDepth 100000 in
set_option maxHeartbeats 4000000 in
theorem tw_m_X1_isUsed {l : Launch} {B : Nat} {D : tw_G} {C : Nat → ClassId} {S : Nat → Nat} {th : Nat} {x0 : Int32} {σ : tw_Sg} (hth : tw_kd th = 1) {r : Int32} (h : tw_P_X1_isUsed th x0 σ = some r) : tw_Met l B D C S yX1_isUsed cX1_isUsed 2 (some .boolean) ({ frames := 1, cells := 0, slots := 0, locals := 21 } : Room) [.ref (B + th), .int x0] σ (some (.int r)) σ := by
  refine tw_metOfP (tw_P_X1_isUsed th x0 σ) r h (fun r => (some (.int r), σ)) (by decide +kernel) (Nat.le_of_ble_eq_true rfl) ⟨rfl, rfl⟩ ?_
  intro z el eB eD eC eS hfr hlo hcs X hret hQ
  subst el eB eD eC eS
  have X : tw_X z cX1_isUsed "TreasureWalk$Clues" 2 := X
  show tw_Rf z r _ σ 0 [(0, .ref (tw_zB z + th)), (1, .int x0)] []
  unfold tw_P_X1_isUsed
  refine r_aload_n X dX1_isUsed_0 rfl 0 rfl ?_
  refine tw_g1_1 (k := th) (v := .ref (tw_zB z + (th + 1))) X dX1_isUsed_1 _ tw_w118 hth rfl ?_
  refine r_iload_n X dX1_isUsed_4 rfl 1 rfl ?_
  refine r_bd (fun r1 hr1 => ?_)
  refine tw_c_X7_get X dX1_isUsed_5 _ tw_w560 (tw_k1_1 hth) hr1 (tw_le hfr rfl) (tw_le hlo rfl) hcs (Nat.le_of_ble_eq_true rfl) trivial ?_
  refine r_iconst X dX1_isUsed_8 (v := (1 : Int32)) (by decide) ?_
  refine r_jn (α := Int32) (σJ := fun a2 => σ) (pcJ := 17) (LJ := fun a2 => []) (stJ := fun a2 => [.int a2]) (ok := fun a2 => True) (fun a2 hoka2 => ?_) (fun j3 hj3 => ?_)
  ·
    exact r_zret X dX1_isUsed_17 hret hQ rfl
  refine r_icmp_ne X dX1_isUsed_9 (tgt := 16) (by decide) ?_ ?_
  ·
    refine r_iconst X dX1_isUsed_16 (v := (0 : Int32)) (by decide) ?_
    exact tw_Rf.sub [] rfl (hj3 (0 : Int32) trivial)
  ·
    refine r_iconst X dX1_isUsed_12 (v := (1 : Int32)) (by decide) ?_
    refine r_goto X dX1_isUsed_13 (tgt := 17) (by decide) ?_
    exact tw_Rf.sub [] rfl (hj3 (1 : Int32) trivial)
theorem tw_c_X1_isUsed {ρ : Type} {z : tw_Z} {cc : ByteArray} {own : String} {nL pc : Nat} {σ : tw_Sg} {L : List (Nat × Value)} {st : List Value} {ix : Nat} {th : Nat} {x0 : Int32} (X : tw_X z cc own nL) (d : decode cc pc = .ok (.invokevirtual ix, 3)) (i : Nat) (hi : lw_tbl[i]? = some (.methodLink own ix yX1_isUsed)) (hth : tw_kd th = 1) {res : ρ} {E : Option ρ} {r : Int32} (h : tw_P_X1_isUsed th x0 σ = some r) (h1 : 2 ≤ (tw_zR z).frames) (h2 : 42 ≤ (tw_zR z).locals) (hcs : tw_zcells z ≤ (tw_zR z).cells ∧ tw_zslots z ≤ (tw_zR z).slots) (hst : (st.map fun v => v.category).sum ≤ 8) (_ : True) (kk : tw_Rf z res E σ (pc + 3) L (.int r :: st)) : tw_Rf z res E σ pc L (.int x0 :: .ref (tw_zB z + th) :: st) := r_callV (As := [.int x0]) X d (tw_m_X1_isUsed hth h) tw_y_X1_isUsed tw_v_X1_isUsed i hi rfl (tw_kd_lt hth (by decide)) (tw_E1 hth) rfl ⟨rfl, rfl, h1, h2⟩ hcs hst rfl kk
def tw_P_X1_countUsed (n : Nat) (th : Nat) (σ : tw_Sg) : Option (Int32) :=
tw_lt (0 : Int32) (fun (v1 : Int32) =>
tw_lt (0 : Int32) (fun (v2 : Int32) =>
tw_lp (fun (k4 : (Int32 × Int32) → Option (Int32)) (a3 : Int32 × Int32) =>
if (σ th 0) ≤ a3.2 then (some a3.1)
else (tw_bd (tw_P_X1_isUsed th a3.2 σ) (fun r5 =>
tw_jn (fun (a6 : Int32) =>
tw_lt (a3.1 + a6) (fun (v8 : Int32) =>
tw_lt (a3.2 + (1 : Int32)) (fun (v9 : Int32) =>
k4 (v8, v9)))) (fun (j7 : (Int32) → Option (Int32)) =>
if r5 = 0 then (j7 (0 : Int32))
else (j7 (1 : Int32)))))) n (v1, v2)))
theorem tw_y_X1_countUsed : tw_My yX1_countUsed cX1_countUsed 3 (some .int) 0 := ⟨List.mem_of_getElem? tw_w1561, List.mem_of_getElem? tw_w40, by decide +kernel, by decide +kernel, by decide +kernel⟩
theorem tw_v_X1_countUsed : tw_Mv yX1_countUsed "TreasureWalk$Clues" := ⟨List.mem_of_getElem? tw_w1559, List.mem_of_getElem? tw_w1560, rfl⟩
set_option maxRecDepth 100000 in
set_option maxHeartbeats 4000000 in
theorem tw_m_X1_countUsed {l : Launch} {B : Nat} {D : tw_G} {C : Nat → ClassId} {S : Nat → Nat} {n : Nat} {th : Nat} {σ : tw_Sg} (hth : tw_kd th = 1) {r : Int32} (h : tw_P_X1_countUsed n th σ = some r) : tw_Met l B D C S yX1_countUsed cX1_countUsed 3 (some .int) ({ frames := 2, cells := 0, slots := 0, locals := 42 } : Room) [.ref (B + th)] σ (some (.int r)) σ := by
  refine tw_metOfP (tw_P_X1_countUsed n th σ) r h (fun r => (some (.int r), σ)) (by decide +kernel) (Nat.le_of_ble_eq_true rfl) ⟨rfl, rfl⟩ ?_
  intro z el eB eD eC eS hfr hlo hcs X hret hQ
  subst el eB eD eC eS
  have X : tw_X z cX1_countUsed "TreasureWalk$Clues" 3 := X
  show tw_Rf z r _ σ 0 [(0, .ref (tw_zB z + th))] []
  unfold tw_P_X1_countUsed
  refine r_iconst X dX1_countUsed_0 (v := (0 : Int32)) (by decide) ?_
  refine r_istore_n X dX1_countUsed_1 rfl (by decide) (LL := fun v1 => [(1, .int v1), (0, .ref (tw_zB z + th))]) (fun _ => rfl) (fun v1 => ?_)
  refine r_iconst X dX1_countUsed_2 (v := (0 : Int32)) (by decide) ?_
  refine r_istore_n X dX1_countUsed_3 rfl (by decide) (LL := fun v2 => [(2, .int v2), (1, .int v1), (0, .ref (tw_zB z + th))]) (fun _ => rfl) (fun v2 => ?_)
  refine r_lp (α := Int32 × Int32) (σJ := fun a3 => σ) (pcJ := 4) (LJ := fun a3 => [(2, .int a3.2), (1, .int a3.1), (0, .ref (tw_zB z + th))]) (stJ := fun a3 => []) (fun k4 hk4 a3 => ?_) n (v1, v2)
  refine r_iload_n X dX1_countUsed_4 rfl 0 rfl ?_
  refine r_aload_n X dX1_countUsed_5 rfl 2 rfl ?_
  refine tw_g1_0 (k := th) (v := .int (σ th 0)) X dX1_countUsed_6 _ tw_w113 hth rfl ?_
  refine r_icmp_ge X dX1_countUsed_9 (tgt := 34) (by decide) ?_ ?_
  ·
    refine r_iload_n X dX1_countUsed_34 rfl 1 rfl ?_
    exact r_iret X dX1_countUsed_35 hret hQ rfl
  ·
    refine r_iload_n X dX1_countUsed_12 rfl 1 rfl ?_
    refine r_aload_n X dX1_countUsed_13 rfl 2 rfl ?_
    refine r_iload_n X dX1_countUsed_14 rfl 0 rfl ?_
    refine r_bd (fun r5 hr5 => ?_)
    refine tw_c_X1_isUsed X dX1_countUsed_15 _ tw_w1562 hth hr5 (tw_le hfr rfl) (tw_le hlo rfl) hcs (Nat.le_of_ble_eq_true rfl) trivial ?_
    refine r_jn (α := Int32) (σJ := fun a6 => σ) (pcJ := 26) (LJ := fun a6 => [(2, .int a3.2), (0, .ref (tw_zB z + th))]) (stJ := fun a6 => [.int a6, .int a3.1]) (ok := fun a6 => True) (fun a6 hoka6 => ?_) (fun j7 hj7 => ?_)
    ·
      refine r_iadd X dX1_countUsed_26 ?_
      refine r_istore_n X dX1_countUsed_27 rfl (by decide) (LL := fun v8 => [(1, .int v8), (2, .int a3.2), (0, .ref (tw_zB z + th))]) (fun _ => rfl) (fun v8 => ?_)
      refine r_iinc X dX1_countUsed_28 1 rfl (v := (1 : Int32)) (by decide) (by decide) (LL := fun v9 => [(2, .int v9), (1, .int v8), (0, .ref (tw_zB z + th))]) (fun _ => rfl) (fun v9 => ?_)
      refine r_goto X dX1_countUsed_31 (tgt := 4) (by decide) ?_
      exact hk4 (v8, v9)
    refine r_if_eq X dX1_countUsed_18 (tgt := 25) (by decide) ?_ ?_
    ·
      refine r_iconst X dX1_countUsed_25 (v := (0 : Int32)) (by decide) ?_
      exact tw_Rf.sub [0, 2] rfl (hj7 (0 : Int32) trivial)
    ·
      refine r_iconst X dX1_countUsed_21 (v := (1 : Int32)) (by decide) ?_
      refine r_goto X dX1_countUsed_22 (tgt := 26) (by decide) ?_
      exact tw_Rf.sub [0, 2] rfl (hj7 (1 : Int32) trivial)
theorem tw_c_X1_countUsed {ρ : Type} {z : tw_Z} {cc : ByteArray} {own : String} {nL pc : Nat} {σ : tw_Sg} {L : List (Nat × Value)} {st : List Value} {ix : Nat} {n : Nat} {th : Nat} (X : tw_X z cc own nL) (d : decode cc pc = .ok (.invokevirtual ix, 3)) (i : Nat) (hi : lw_tbl[i]? = some (.methodLink own ix yX1_countUsed)) (hth : tw_kd th = 1) {res : ρ} {E : Option ρ} {r : Int32} (h : tw_P_X1_countUsed n th σ = some r) (h1 : 3 ≤ (tw_zR z).frames) (h2 : 64 ≤ (tw_zR z).locals) (hcs : tw_zcells z ≤ (tw_zR z).cells ∧ tw_zslots z ≤ (tw_zR z).slots) (hst : (st.map fun v => v.category).sum ≤ 8) (_ : True) (kk : tw_Rf z res E σ (pc + 3) L (.int r :: st)) : tw_Rf z res E σ pc L (.ref (tw_zB z + th) :: st) := r_callV (As := []) X d (tw_m_X1_countUsed hth h) tw_y_X1_countUsed tw_v_X1_countUsed i hi rfl (tw_kd_lt hth (by decide)) (tw_E1 hth) rfl ⟨rfl, rfl, h1, h2⟩ hcs hst rfl kk
def tw_P_X1_startMark (th : Nat) (x0 : Int32) (x1 : Int32) (σ : tw_Sg) : Option (Int32) :=
tw_bd (tw_P_X7_get (th + 5) ((x0 * (8 : Int32)) + x1) σ) (fun r1 =>
some r1)
theorem tw_y_X1_startMark : tw_My yX1_startMark cX1_startMark 3 (some .int) 2 := ⟨List.mem_of_getElem? tw_w559, List.mem_of_getElem? tw_w40, by decide +kernel, by decide +kernel, by decide +kernel⟩
theorem tw_v_X1_startMark : tw_Mv yX1_startMark "TreasureWalk$Clues" := ⟨List.mem_of_getElem? tw_w557, List.mem_of_getElem? tw_w558, rfl⟩
set_option maxRecDepth 100000 in
set_option maxHeartbeats 4000000 in
theorem tw_m_X1_startMark {l : Launch} {B : Nat} {D : tw_G} {C : Nat → ClassId} {S : Nat → Nat} {th : Nat} {x0 : Int32} {x1 : Int32} {σ : tw_Sg} (hth : tw_kd th = 1) {r : Int32} (h : tw_P_X1_startMark th x0 x1 σ = some r) : tw_Met l B D C S yX1_startMark cX1_startMark 3 (some .int) ({ frames := 1, cells := 0, slots := 0, locals := 21 } : Room) [.ref (B + th), .int x0, .int x1] σ (some (.int r)) σ := by
  refine tw_metOfP (tw_P_X1_startMark th x0 x1 σ) r h (fun r => (some (.int r), σ)) (by decide +kernel) (Nat.le_of_ble_eq_true rfl) ⟨rfl, rfl⟩ ?_
  intro z el eB eD eC eS hfr hlo hcs X hret hQ
  subst el eB eD eC eS
  have X : tw_X z cX1_startMark "TreasureWalk$Clues" 3 := X
  show tw_Rf z r _ σ 0 [(0, .ref (tw_zB z + th)), (1, .int x0), (2, .int x1)] []
  unfold tw_P_X1_startMark
  refine r_aload_n X dX1_startMark_0 rfl 0 rfl ?_
  refine tw_g1_3 (k := th) (v := .ref (tw_zB z + (th + 5))) X dX1_startMark_1 _ tw_w123 hth rfl ?_
  refine r_iload_n X dX1_startMark_4 rfl 1 rfl ?_
  refine r_bipush X dX1_startMark_5 (v := (8 : Int32)) (by decide) ?_
  refine r_imul X dX1_startMark_7 ?_
  refine r_iload_n X dX1_startMark_8 rfl 2 rfl ?_
  refine r_iadd X dX1_startMark_9 ?_
  refine r_bd (fun r1 hr1 => ?_)
  refine tw_c_X7_get X dX1_startMark_10 _ tw_w560 (tw_k1_3 hth) hr1 (tw_le hfr rfl) (tw_le hlo rfl) hcs (Nat.le_of_ble_eq_true rfl) trivial ?_
  exact r_iret X dX1_startMark_13 hret hQ rfl
theorem tw_c_X1_startMark {ρ : Type} {z : tw_Z} {cc : ByteArray} {own : String} {nL pc : Nat} {σ : tw_Sg} {L : List (Nat × Value)} {st : List Value} {ix : Nat} {th : Nat} {x0 : Int32} {x1 : Int32} (X : tw_X z cc own nL) (d : decode cc pc = .ok (.invokevirtual ix, 3)) (i : Nat) (hi : lw_tbl[i]? = some (.methodLink own ix yX1_startMark)) (hth : tw_kd th = 1) {res : ρ} {E : Option ρ} {r : Int32} (h : tw_P_X1_startMark th x0 x1 σ = some r) (h1 : 2 ≤ (tw_zR z).frames) (h2 : 43 ≤ (tw_zR z).locals) (hcs : tw_zcells z ≤ (tw_zR z).cells ∧ tw_zslots z ≤ (tw_zR z).slots) (hst : (st.map fun v => v.category).sum ≤ 8) (_ : True) (kk : tw_Rf z res E σ (pc + 3) L (.int r :: st)) : tw_Rf z res E σ pc L (.int x1 :: .int x0 :: .ref (tw_zB z + th) :: st) := r_callV (As := [.int x0, .int x1]) X d (tw_m_X1_startMark hth h) tw_y_X1_startMark tw_v_X1_startMark i hi rfl (tw_kd_lt hth (by decide)) (tw_E1 hth) rfl ⟨rfl, rfl, h1, h2⟩ hcs hst rfl kk
def tw_P_X1_hasStart (n : Nat) (th : Nat) (x0 : Int32) (x1 : Int32) (σ : tw_Sg) : Option (Int32) :=
tw_lt (0 : Int32) (fun (v1 : Int32) =>
tw_lp (fun (k3 : (Int32) → Option (Int32)) (a2 : Int32) =>
tw_bd (tw_P_X7_get (th + 3) x0 σ) (fun r4 =>
if r4 ≤ a2 then (tw_ck (tw_01 (0 : Int32)) (some (0 : Int32)))
else (tw_bd (tw_P_X1_startMark th x0 a2 σ) (fun r5 =>
if ¬ r5 = x1 then (tw_lt (a2 + (1 : Int32)) (fun (v6 : Int32) =>
k3 v6))
else (tw_ck (tw_01 (1 : Int32)) (some (1 : Int32))))))) n v1)
theorem tw_y_X1_hasStart : tw_My yX1_hasStart cX1_hasStart 4 (some .boolean) 2 := ⟨List.mem_of_getElem? tw_w994, List.mem_of_getElem? tw_w40, by decide +kernel, by decide +kernel, by decide +kernel⟩
theorem tw_v_X1_hasStart : tw_Mv yX1_hasStart "TreasureWalk$Clues" := ⟨List.mem_of_getElem? tw_w992, List.mem_of_getElem? tw_w993, rfl⟩
set_option maxRecDepth 100000 in
set_option maxHeartbeats 4000000 in
theorem tw_m_X1_hasStart {l : Launch} {B : Nat} {D : tw_G} {C : Nat → ClassId} {S : Nat → Nat} {n : Nat} {th : Nat} {x0 : Int32} {x1 : Int32} {σ : tw_Sg} (hth : tw_kd th = 1) {r : Int32} (h : tw_P_X1_hasStart n th x0 x1 σ = some r) : tw_Met l B D C S yX1_hasStart cX1_hasStart 4 (some .boolean) ({ frames := 2, cells := 0, slots := 0, locals := 43 } : Room) [.ref (B + th), .int x0, .int x1] σ (some (.int r)) σ := by
  refine tw_metOfP (tw_P_X1_hasStart n th x0 x1 σ) r h (fun r => (some (.int r), σ)) (by decide +kernel) (Nat.le_of_ble_eq_true rfl) ⟨rfl, rfl⟩ ?_
  intro z el eB eD eC eS hfr hlo hcs X hret hQ
  subst el eB eD eC eS
  have X : tw_X z cX1_hasStart "TreasureWalk$Clues" 4 := X
  show tw_Rf z r _ σ 0 [(0, .ref (tw_zB z + th)), (1, .int x0), (2, .int x1)] []
  unfold tw_P_X1_hasStart
  refine r_iconst X dX1_hasStart_0 (v := (0 : Int32)) (by decide) ?_
  refine r_istore_n X dX1_hasStart_1 rfl (by decide) (LL := fun v1 => [(3, .int v1), (0, .ref (tw_zB z + th)), (1, .int x0), (2, .int x1)]) (fun _ => rfl) (fun v1 => ?_)
  refine r_lp (α := Int32) (σJ := fun a2 => σ) (pcJ := 2) (LJ := fun a2 => [(3, .int a2), (0, .ref (tw_zB z + th)), (1, .int x0), (2, .int x1)]) (stJ := fun a2 => []) (fun k3 hk3 a2 => ?_) n v1
  refine r_iload_n X dX1_hasStart_2 rfl 0 rfl ?_
  refine r_aload_n X dX1_hasStart_3 rfl 1 rfl ?_
  refine tw_g1_2 (k := th) (v := .ref (tw_zB z + (th + 3))) X dX1_hasStart_4 _ tw_w121 hth rfl ?_
  refine r_iload_n X dX1_hasStart_7 rfl 2 rfl ?_
  refine r_bd (fun r4 hr4 => ?_)
  refine tw_c_X7_get X dX1_hasStart_8 _ tw_w560 (tw_k1_2 hth) hr4 (tw_le hfr rfl) (tw_le hlo rfl) hcs (Nat.le_of_ble_eq_true rfl) trivial ?_
  refine r_icmp_ge X dX1_hasStart_11 (tgt := 32) (by decide) ?_ ?_
  ·
    refine r_iconst X dX1_hasStart_32 (v := (0 : Int32)) (by decide) ?_
    exact r_zret X dX1_hasStart_33 hret hQ rfl
  ·
    refine r_aload_n X dX1_hasStart_14 rfl 1 rfl ?_
    refine r_iload_n X dX1_hasStart_15 rfl 2 rfl ?_
    refine r_iload_n X dX1_hasStart_16 rfl 0 rfl ?_
    refine r_bd (fun r5 hr5 => ?_)
    refine tw_c_X1_startMark X dX1_hasStart_17 _ tw_w995 hth hr5 (tw_le hfr rfl) (tw_le hlo rfl) hcs (Nat.le_of_ble_eq_true rfl) trivial ?_
    refine r_iload_n X dX1_hasStart_20 rfl 3 rfl ?_
    refine r_icmp_ne X dX1_hasStart_21 (tgt := 26) (by decide) ?_ ?_
    ·
      refine r_iinc X dX1_hasStart_26 0 rfl (v := (1 : Int32)) (by decide) (by decide) (LL := fun v6 => [(3, .int v6), (0, .ref (tw_zB z + th)), (1, .int x0), (2, .int x1)]) (fun _ => rfl) (fun v6 => ?_)
      refine r_goto X dX1_hasStart_29 (tgt := 2) (by decide) ?_
      exact hk3 v6
    ·
      refine r_iconst X dX1_hasStart_24 (v := (1 : Int32)) (by decide) ?_
      exact r_zret X dX1_hasStart_25 hret hQ rfl
theorem tw_c_X1_hasStart {ρ : Type} {z : tw_Z} {cc : ByteArray} {own : String} {nL pc : Nat} {σ : tw_Sg} {L : List (Nat × Value)} {st : List Value} {ix : Nat} {n : Nat} {th : Nat} {x0 : Int32} {x1 : Int32} (X : tw_X z cc own nL) (d : decode cc pc = .ok (.invokevirtual ix, 3)) (i : Nat) (hi : lw_tbl[i]? = some (.methodLink own ix yX1_hasStart)) (hth : tw_kd th = 1) {res : ρ} {E : Option ρ} {r : Int32} (h : tw_P_X1_hasStart n th x0 x1 σ = some r) (h1 : 3 ≤ (tw_zR z).frames) (h2 : 66 ≤ (tw_zR z).locals) (hcs : tw_zcells z ≤ (tw_zR z).cells ∧ tw_zslots z ≤ (tw_zR z).slots) (hst : (st.map fun v => v.category).sum ≤ 8) (_ : True) (kk : tw_Rf z res E σ (pc + 3) L (.int r :: st)) : tw_Rf z res E σ pc L (.int x1 :: .int x0 :: .ref (tw_zB z + th) :: st) := r_callV (As := [.int x0, .int x1]) X d (tw_m_X1_hasStart hth h) tw_y_X1_hasStart tw_v_X1_hasStart i hi rfl (tw_kd_lt hth (by decide)) (tw_E1 hth) rfl ⟨rfl, rfl, h1, h2⟩ hcs hst rfl kk
def tw_P_X7_put (th : Nat) (x0 : Int32) (x1 : Int32) (σ : tw_Sg) : Option (tw_Sg) :=
tw_jn (fun (a1 : tw_Sg) =>
some a1) (fun (j2 : (tw_Sg) → Option (tw_Sg)) =>
if x0 < 0 then (j2 σ)
else (if (Int32.ofNat (tw_ln (th + 1))) ≤ x0 then (j2 σ)
else (tw_ck (tw_ok x0 (tw_ln (th + 1))) (tw_lt (tw_up σ (th + 1) (Int32.toNatClampNeg x0) x1) (fun (σ3 : tw_Sg) =>
j2 σ3)))))
theorem tw_y_X7_put : tw_My yX7_put cX7_put 3 none 2 := ⟨List.mem_of_getElem? tw_w533, List.mem_of_getElem? tw_w39, by decide +kernel, by decide +kernel, by decide +kernel⟩
theorem tw_v_X7_put : tw_Mv yX7_put "TreasureWalk$Row" := ⟨List.mem_of_getElem? tw_w531, List.mem_of_getElem? tw_w532, rfl⟩
set_option maxRecDepth 100000 in
set_option maxHeartbeats 4000000 in
theorem tw_m_X7_put {l : Launch} {B : Nat} {D : tw_G} {C : Nat → ClassId} {S : Nat → Nat} {th : Nat} {x0 : Int32} {x1 : Int32} {σ : tw_Sg} (hth : tw_kd th = 7) {r : tw_Sg} (h : tw_P_X7_put th x0 x1 σ = some r) : tw_Met l B D C S yX7_put cX7_put 3 none ({ frames := 0, cells := 0, slots := 0, locals := 0 } : Room) [.ref (B + th), .int x0, .int x1] σ (none) r := by
  refine tw_metOfP (tw_P_X7_put th x0 x1 σ) r h (fun r => (none, r)) (by decide +kernel) (Nat.le_of_ble_eq_true rfl) ⟨rfl, rfl⟩ ?_
  intro z el eB eD eC eS hfr hlo hcs X hret hQ
  subst el eB eD eC eS
  have X : tw_X z cX7_put "TreasureWalk$Row" 3 := X
  show tw_Rf z r _ σ 0 [(0, .ref (tw_zB z + th)), (1, .int x0), (2, .int x1)] []
  unfold tw_P_X7_put
  refine r_iload_n X dX7_put_0 rfl 1 rfl ?_
  refine r_jn (α := tw_Sg) (σJ := fun a1 => a1) (pcJ := 20) (LJ := fun a1 => []) (stJ := fun a1 => []) (ok := fun a1 => True) (fun a1 hoka1 => ?_) (fun j2 hj2 => ?_)
  ·
    exact r_vret X dX7_put_20 hret hQ rfl
  refine r_if_lt X dX7_put_1 (tgt := 20) (by decide) ?_ ?_
  ·
    exact tw_Rf.sub [] rfl (hj2 σ trivial)
  ·
    refine r_iload_n X dX7_put_4 rfl 1 rfl ?_
    refine r_aload_n X dX7_put_5 rfl 0 rfl ?_
    refine tw_g7_0 (k := th) (v := .ref (tw_zB z + (th + 1))) X dX7_put_6 _ tw_w101 hth rfl ?_
    refine r_alenI (k := (th + 1)) X dX7_put_9 (tw_k7_0 hth) rfl ?_
    refine r_icmp_ge X dX7_put_10 (tgt := 20) (by decide) ?_ ?_
    ·
      exact tw_Rf.sub [] rfl (hj2 σ trivial)
    ·
      refine r_aload_n X dX7_put_13 rfl 0 rfl ?_
      refine tw_g7_0 (k := th) (v := .ref (tw_zB z + (th + 1))) X dX7_put_14 _ tw_w101 hth rfl ?_
      refine r_iload_n X dX7_put_17 rfl 1 rfl ?_
      refine r_iload_n X dX7_put_18 rfl 2 rfl ?_
      refine r_iast (k := (th + 1)) X dX7_put_19 (tw_k7_0 hth) (fun σ3 => ?_)
      exact tw_Rf.sub [] rfl (hj2 σ3 trivial)
theorem tw_c_X7_put {ρ : Type} {z : tw_Z} {cc : ByteArray} {own : String} {nL pc : Nat} {σ : tw_Sg} {L : List (Nat × Value)} {st : List Value} {ix : Nat} {th : Nat} {x0 : Int32} {x1 : Int32} (X : tw_X z cc own nL) (d : decode cc pc = .ok (.invokevirtual ix, 3)) (i : Nat) (hi : lw_tbl[i]? = some (.methodLink own ix yX7_put)) (hth : tw_kd th = 7) {res : ρ} {E : Option ρ} {r : tw_Sg} (h : tw_P_X7_put th x0 x1 σ = some r) (h1 : 1 ≤ (tw_zR z).frames) (h2 : 22 ≤ (tw_zR z).locals) (hcs : tw_zcells z ≤ (tw_zR z).cells ∧ tw_zslots z ≤ (tw_zR z).slots) (hst : (st.map fun v => v.category).sum ≤ 8) (_ : True) (kk : tw_Rf z res E r (pc + 3) L (st)) : tw_Rf z res E σ pc L (.int x1 :: .int x0 :: .ref (tw_zB z + th) :: st) := r_callV (As := [.int x0, .int x1]) X d (tw_m_X7_put hth h) tw_y_X7_put tw_v_X7_put i hi rfl (tw_kd_lt hth (by decide)) (tw_E7 hth) rfl ⟨rfl, rfl, h1, h2⟩ hcs hst rfl kk
def tw_P_X1_addStart (th : Nat) (x0 : Int32) (x1 : Int32) (σ : tw_Sg) : Option (tw_Sg) :=
tw_bd (tw_P_X7_get (th + 3) x0 σ) (fun r1 =>
tw_lt r1 (fun (v2 : Int32) =>
tw_bd (tw_P_X7_put (th + 5) ((x0 * (8 : Int32)) + v2) x1 σ) (fun r3 =>
tw_bd (tw_P_X7_put (th + 3) x0 (v2 + (1 : Int32)) r3) (fun r4 =>
some r4))))
theorem tw_y_X1_addStart : tw_My yX1_addStart cX1_addStart 4 none 2 := ⟨List.mem_of_getElem? tw_w999, List.mem_of_getElem? tw_w40, by decide +kernel, by decide +kernel, by decide +kernel⟩
theorem tw_v_X1_addStart : tw_Mv yX1_addStart "TreasureWalk$Clues" := ⟨List.mem_of_getElem? tw_w997, List.mem_of_getElem? tw_w998, rfl⟩
set_option maxRecDepth 100000 in
set_option maxHeartbeats 4000000 in
theorem tw_m_X1_addStart {l : Launch} {B : Nat} {D : tw_G} {C : Nat → ClassId} {S : Nat → Nat} {th : Nat} {x0 : Int32} {x1 : Int32} {σ : tw_Sg} (hth : tw_kd th = 1) {r : tw_Sg} (h : tw_P_X1_addStart th x0 x1 σ = some r) : tw_Met l B D C S yX1_addStart cX1_addStart 4 none ({ frames := 1, cells := 0, slots := 0, locals := 22 } : Room) [.ref (B + th), .int x0, .int x1] σ (none) r := by
  refine tw_metOfP (tw_P_X1_addStart th x0 x1 σ) r h (fun r => (none, r)) (by decide +kernel) (Nat.le_of_ble_eq_true rfl) ⟨rfl, rfl⟩ ?_
  intro z el eB eD eC eS hfr hlo hcs X hret hQ
  subst el eB eD eC eS
  have X : tw_X z cX1_addStart "TreasureWalk$Clues" 4 := X
  show tw_Rf z r _ σ 0 [(0, .ref (tw_zB z + th)), (1, .int x0), (2, .int x1)] []
  unfold tw_P_X1_addStart
  refine r_aload_n X dX1_addStart_0 rfl 0 rfl ?_
  refine tw_g1_2 (k := th) (v := .ref (tw_zB z + (th + 3))) X dX1_addStart_1 _ tw_w121 hth rfl ?_
  refine r_iload_n X dX1_addStart_4 rfl 1 rfl ?_
  refine r_bd (fun r1 hr1 => ?_)
  refine tw_c_X7_get X dX1_addStart_5 _ tw_w560 (tw_k1_2 hth) hr1 (tw_le hfr rfl) (tw_le hlo rfl) hcs (Nat.le_of_ble_eq_true rfl) trivial ?_
  refine r_istore_n X dX1_addStart_8 rfl (by decide) (LL := fun v2 => [(3, .int v2), (0, .ref (tw_zB z + th)), (1, .int x0), (2, .int x1)]) (fun _ => rfl) (fun v2 => ?_)
  refine r_aload_n X dX1_addStart_9 rfl 1 rfl ?_
  refine tw_g1_3 (k := th) (v := .ref (tw_zB z + (th + 5))) X dX1_addStart_10 _ tw_w123 hth rfl ?_
  refine r_iload_n X dX1_addStart_13 rfl 2 rfl ?_
  refine r_bipush X dX1_addStart_14 (v := (8 : Int32)) (by decide) ?_
  refine r_imul X dX1_addStart_16 ?_
  refine r_iload_n X dX1_addStart_17 rfl 0 rfl ?_
  refine r_iadd X dX1_addStart_18 ?_
  refine r_iload_n X dX1_addStart_19 rfl 3 rfl ?_
  refine r_bd (fun r3 hr3 => ?_)
  refine tw_c_X7_put X dX1_addStart_20 _ tw_w1000 (tw_k1_3 hth) hr3 (tw_le hfr rfl) (tw_le hlo rfl) hcs (Nat.le_of_ble_eq_true rfl) trivial ?_
  refine r_aload_n X dX1_addStart_23 rfl 1 rfl ?_
  refine tw_g1_2 (k := th) (v := .ref (tw_zB z + (th + 3))) X dX1_addStart_24 _ tw_w121 hth rfl ?_
  refine r_iload_n X dX1_addStart_27 rfl 2 rfl ?_
  refine r_iload_n X dX1_addStart_28 rfl 0 rfl ?_
  refine r_iconst X dX1_addStart_29 (v := (1 : Int32)) (by decide) ?_
  refine r_iadd X dX1_addStart_30 ?_
  refine r_bd (fun r4 hr4 => ?_)
  refine tw_c_X7_put X dX1_addStart_31 _ tw_w1000 (tw_k1_2 hth) hr4 (tw_le hfr rfl) (tw_le hlo rfl) hcs (Nat.le_of_ble_eq_true rfl) trivial ?_
  exact r_vret X dX1_addStart_34 hret hQ rfl
theorem tw_c_X1_addStart {ρ : Type} {z : tw_Z} {cc : ByteArray} {own : String} {nL pc : Nat} {σ : tw_Sg} {L : List (Nat × Value)} {st : List Value} {ix : Nat} {th : Nat} {x0 : Int32} {x1 : Int32} (X : tw_X z cc own nL) (d : decode cc pc = .ok (.invokevirtual ix, 3)) (i : Nat) (hi : lw_tbl[i]? = some (.methodLink own ix yX1_addStart)) (hth : tw_kd th = 1) {res : ρ} {E : Option ρ} {r : tw_Sg} (h : tw_P_X1_addStart th x0 x1 σ = some r) (h1 : 2 ≤ (tw_zR z).frames) (h2 : 45 ≤ (tw_zR z).locals) (hcs : tw_zcells z ≤ (tw_zR z).cells ∧ tw_zslots z ≤ (tw_zR z).slots) (hst : (st.map fun v => v.category).sum ≤ 8) (_ : True) (kk : tw_Rf z res E r (pc + 3) L (st)) : tw_Rf z res E σ pc L (.int x1 :: .int x0 :: .ref (tw_zB z + th) :: st) := r_callV (As := [.int x0, .int x1]) X d (tw_m_X1_addStart hth h) tw_y_X1_addStart tw_v_X1_addStart i hi rfl (tw_kd_lt hth (by decide)) (tw_E1 hth) rfl ⟨rfl, rfl, h1, h2⟩ hcs hst rfl kk
def tw_P_X7_copyFrom (th : Nat) (r0 : Nat) (σ : tw_Sg) : Option (tw_Sg) :=
tw_lt (if (Int32.ofNat (tw_ln (r0 + 1))) < (Int32.ofNat (tw_ln (th + 1))) then (Int32.ofNat (tw_ln (r0 + 1))) else (Int32.ofNat (tw_ln (th + 1)))) (fun (v1 : Int32) =>
tw_ck (tw_cpo (0 : Int32) (0 : Int32) v1 (tw_ln (r0 + 1)) (tw_ln (th + 1))) (tw_lt (tw_upA σ (th + 1) (va_cpy (σ (r0 + 1)) (σ (th + 1)) (Int32.toNatClampNeg (0 : Int32)) (Int32.toNatClampNeg (0 : Int32)) (Int32.toNatClampNeg v1))) (fun (σ2 : tw_Sg) =>
some σ2)))
theorem tw_y_X7_copyFrom : tw_My yX7_copyFrom cX7_copyFrom 3 none 1 := ⟨List.mem_of_getElem? tw_w486, List.mem_of_getElem? tw_w39, by decide +kernel, by decide +kernel, by decide +kernel⟩
theorem tw_v_X7_copyFrom : tw_Mv yX7_copyFrom "TreasureWalk$Row" := ⟨List.mem_of_getElem? tw_w484, List.mem_of_getElem? tw_w485, rfl⟩
set_option maxRecDepth 100000 in
set_option maxHeartbeats 4000000 in
theorem tw_m_X7_copyFrom {l : Launch} {B : Nat} {D : tw_G} {C : Nat → ClassId} {S : Nat → Nat} {th : Nat} {r0 : Nat} {σ : tw_Sg} (hth : tw_kd th = 7) (hr0 : tw_kd r0 = 7) {r : tw_Sg} (h : tw_P_X7_copyFrom th r0 σ = some r) : tw_Met l B D C S yX7_copyFrom cX7_copyFrom 3 none ({ frames := 1, cells := 0, slots := 0, locals := 60 } : Room) [.ref (B + th), .ref (B + r0)] σ (none) r := by
  refine tw_metOfP (tw_P_X7_copyFrom th r0 σ) r h (fun r => (none, r)) (by decide +kernel) (Nat.le_of_ble_eq_true rfl) ⟨rfl, rfl⟩ ?_
  intro z el eB eD eC eS hfr hlo hcs X hret hQ
  subst el eB eD eC eS
  have X : tw_X z cX7_copyFrom "TreasureWalk$Row" 3 := X
  show tw_Rf z r _ σ 0 [(0, .ref (tw_zB z + th)), (1, .ref (tw_zB z + r0))] []
  unfold tw_P_X7_copyFrom
  refine r_aload_n X dX7_copyFrom_0 rfl 0 rfl ?_
  refine tw_g7_0 (k := th) (v := .ref (tw_zB z + (th + 1))) X dX7_copyFrom_1 _ tw_w101 hth rfl ?_
  refine r_alenI (k := (th + 1)) X dX7_copyFrom_4 (tw_k7_0 hth) rfl ?_
  refine r_aload_n X dX7_copyFrom_5 rfl 1 rfl ?_
  refine tw_g7_0 (k := r0) (v := .ref (tw_zB z + (r0 + 1))) X dX7_copyFrom_6 _ tw_w101 hr0 rfl ?_
  refine r_alenI (k := (r0 + 1)) X dX7_copyFrom_9 (tw_k7_0 hr0) rfl ?_
  refine tw_mmin X dX7_copyFrom_10 _ tw_w487 (tw_le hfr rfl) (tw_le hlo rfl) hcs ?_
  refine r_istore_n X dX7_copyFrom_13 rfl (by decide) (LL := fun v1 => [(2, .int v1), (0, .ref (tw_zB z + th)), (1, .ref (tw_zB z + r0))]) (fun _ => rfl) (fun v1 => ?_)
  refine r_aload_n X dX7_copyFrom_14 rfl 2 rfl ?_
  refine tw_g7_0 (k := r0) (v := .ref (tw_zB z + (r0 + 1))) X dX7_copyFrom_15 _ tw_w101 hr0 rfl ?_
  refine r_iconst X dX7_copyFrom_18 (v := (0 : Int32)) (by decide) ?_
  refine r_aload_n X dX7_copyFrom_19 rfl 1 rfl ?_
  refine tw_g7_0 (k := th) (v := .ref (tw_zB z + (th + 1))) X dX7_copyFrom_20 _ tw_w101 hth rfl ?_
  refine r_iconst X dX7_copyFrom_23 (v := (0 : Int32)) (by decide) ?_
  refine r_iload_n X dX7_copyFrom_24 rfl 0 rfl ?_
  refine tw_acopy (k0 := (r0 + 1)) (k1 := (th + 1)) X dX7_copyFrom_25 _ tw_w488 (tw_k7_0 hr0) (tw_k7_0 hth) (tw_le hfr rfl) (tw_le hlo rfl) (fun σ2 => ?_)
  exact r_vret X dX7_copyFrom_28 hret hQ rfl
theorem tw_c_X7_copyFrom {ρ : Type} {z : tw_Z} {cc : ByteArray} {own : String} {nL pc : Nat} {σ : tw_Sg} {L : List (Nat × Value)} {st : List Value} {ix : Nat} {th : Nat} {r0 : Nat} (X : tw_X z cc own nL) (d : decode cc pc = .ok (.invokevirtual ix, 3)) (i : Nat) (hi : lw_tbl[i]? = some (.methodLink own ix yX7_copyFrom)) (hth : tw_kd th = 7) (hr0 : tw_kd r0 = 7) {res : ρ} {E : Option ρ} {r : tw_Sg} (h : tw_P_X7_copyFrom th r0 σ = some r) (h1 : 2 ≤ (tw_zR z).frames) (h2 : 82 ≤ (tw_zR z).locals) (hcs : tw_zcells z ≤ (tw_zR z).cells ∧ tw_zslots z ≤ (tw_zR z).slots) (hst : (st.map fun v => v.category).sum ≤ 8) (_ : True) (kk : tw_Rf z res E r (pc + 3) L (st)) : tw_Rf z res E σ pc L (.ref (tw_zB z + r0) :: .ref (tw_zB z + th) :: st) := r_callV (As := [.ref (tw_zB z + r0)]) X d (tw_m_X7_copyFrom hth hr0 h) tw_y_X7_copyFrom tw_v_X7_copyFrom i hi rfl (tw_kd_lt hth (by decide)) (tw_E7 hth) rfl ⟨rfl, rfl, h1, h2⟩ hcs hst rfl kk
def tw_P_X1_copyFrom (th : Nat) (r0 : Nat) (σ : tw_Sg) : Option (tw_Sg) :=
tw_lt (tw_up σ th 0 (σ r0 0)) (fun (σ1 : tw_Sg) =>
tw_bd (tw_P_X7_copyFrom (th + 1) (r0 + 1) σ1) (fun r2 =>
tw_bd (tw_P_X7_copyFrom (th + 3) (r0 + 3) r2) (fun r3 =>
tw_bd (tw_P_X7_copyFrom (th + 5) (r0 + 5) r3) (fun r4 =>
tw_bd (tw_P_X7_copyFrom (th + 7) (r0 + 7) r4) (fun r5 =>
tw_bd (tw_P_X7_copyFrom (th + 9) (r0 + 9) r5) (fun r6 =>
tw_bd (tw_P_X7_copyFrom (th + 11) (r0 + 11) r6) (fun r7 =>
tw_bd (tw_P_X7_copyFrom (th + 13) (r0 + 13) r7) (fun r8 =>
tw_bd (tw_P_X7_copyFrom (th + 15) (r0 + 15) r8) (fun r9 =>
tw_bd (tw_P_X7_copyFrom (th + 17) (r0 + 17) r9) (fun r10 =>
some r10))))))))))
theorem tw_y_X1_copyFrom : tw_My yX1_copyFrom cX1_copyFrom 2 none 1 := ⟨List.mem_of_getElem? tw_w492, List.mem_of_getElem? tw_w40, by decide +kernel, by decide +kernel, by decide +kernel⟩
theorem tw_v_X1_copyFrom : tw_Mv yX1_copyFrom "TreasureWalk$Clues" := ⟨List.mem_of_getElem? tw_w490, List.mem_of_getElem? tw_w491, rfl⟩
set_option maxRecDepth 100000 in
set_option maxHeartbeats 4000000 in
theorem tw_m_X1_copyFrom {l : Launch} {B : Nat} {D : tw_G} {C : Nat → ClassId} {S : Nat → Nat} {th : Nat} {r0 : Nat} {σ : tw_Sg} (hth : tw_kd th = 1) (hr0 : tw_kd r0 = 1) {r : tw_Sg} (h : tw_P_X1_copyFrom th r0 σ = some r) : tw_Met l B D C S yX1_copyFrom cX1_copyFrom 2 none ({ frames := 2, cells := 0, slots := 0, locals := 82 } : Room) [.ref (B + th), .ref (B + r0)] σ (none) r := by
  refine tw_metOfP (tw_P_X1_copyFrom th r0 σ) r h (fun r => (none, r)) (by decide +kernel) (Nat.le_of_ble_eq_true rfl) ⟨rfl, rfl⟩ ?_
  intro z el eB eD eC eS hfr hlo hcs X hret hQ
  subst el eB eD eC eS
  have X : tw_X z cX1_copyFrom "TreasureWalk$Clues" 2 := X
  show tw_Rf z r _ σ 0 [(0, .ref (tw_zB z + th)), (1, .ref (tw_zB z + r0))] []
  unfold tw_P_X1_copyFrom
  refine r_aload_n X dX1_copyFrom_0 rfl 0 rfl ?_
  refine r_aload_n X dX1_copyFrom_1 rfl 1 rfl ?_
  refine tw_g1_0 (k := r0) (v := .int (σ r0 0)) X dX1_copyFrom_2 _ tw_w113 hr0 rfl ?_
  refine tw_s1_0 (k := th) X dX1_copyFrom_5 _ tw_w113 hth (fun σ1 => ?_)
  refine r_aload_n X dX1_copyFrom_8 rfl 0 rfl ?_
  refine tw_g1_1 (k := th) (v := .ref (tw_zB z + (th + 1))) X dX1_copyFrom_9 _ tw_w118 hth rfl ?_
  refine r_aload_n X dX1_copyFrom_12 rfl 1 rfl ?_
  refine tw_g1_1 (k := r0) (v := .ref (tw_zB z + (r0 + 1))) X dX1_copyFrom_13 _ tw_w118 hr0 rfl ?_
  refine r_bd (fun r2 hr2 => ?_)
  refine tw_c_X7_copyFrom X dX1_copyFrom_16 _ tw_w493 (tw_k1_1 hth) (tw_k1_1 hr0) hr2 (tw_le hfr rfl) (tw_le hlo rfl) hcs (Nat.le_of_ble_eq_true rfl) trivial ?_
  refine r_aload_n X dX1_copyFrom_19 rfl 0 rfl ?_
  refine tw_g1_2 (k := th) (v := .ref (tw_zB z + (th + 3))) X dX1_copyFrom_20 _ tw_w121 hth rfl ?_
  refine r_aload_n X dX1_copyFrom_23 rfl 1 rfl ?_
  refine tw_g1_2 (k := r0) (v := .ref (tw_zB z + (r0 + 3))) X dX1_copyFrom_24 _ tw_w121 hr0 rfl ?_
  refine r_bd (fun r3 hr3 => ?_)
  refine tw_c_X7_copyFrom X dX1_copyFrom_27 _ tw_w493 (tw_k1_2 hth) (tw_k1_2 hr0) hr3 (tw_le hfr rfl) (tw_le hlo rfl) hcs (Nat.le_of_ble_eq_true rfl) trivial ?_
  refine r_aload_n X dX1_copyFrom_30 rfl 0 rfl ?_
  refine tw_g1_3 (k := th) (v := .ref (tw_zB z + (th + 5))) X dX1_copyFrom_31 _ tw_w123 hth rfl ?_
  refine r_aload_n X dX1_copyFrom_34 rfl 1 rfl ?_
  refine tw_g1_3 (k := r0) (v := .ref (tw_zB z + (r0 + 5))) X dX1_copyFrom_35 _ tw_w123 hr0 rfl ?_
  refine r_bd (fun r4 hr4 => ?_)
  refine tw_c_X7_copyFrom X dX1_copyFrom_38 _ tw_w493 (tw_k1_3 hth) (tw_k1_3 hr0) hr4 (tw_le hfr rfl) (tw_le hlo rfl) hcs (Nat.le_of_ble_eq_true rfl) trivial ?_
  refine r_aload_n X dX1_copyFrom_41 rfl 0 rfl ?_
  refine tw_g1_4 (k := th) (v := .ref (tw_zB z + (th + 7))) X dX1_copyFrom_42 _ tw_w124 hth rfl ?_
  refine r_aload_n X dX1_copyFrom_45 rfl 1 rfl ?_
  refine tw_g1_4 (k := r0) (v := .ref (tw_zB z + (r0 + 7))) X dX1_copyFrom_46 _ tw_w124 hr0 rfl ?_
  refine r_bd (fun r5 hr5 => ?_)
  refine tw_c_X7_copyFrom X dX1_copyFrom_49 _ tw_w493 (tw_k1_4 hth) (tw_k1_4 hr0) hr5 (tw_le hfr rfl) (tw_le hlo rfl) hcs (Nat.le_of_ble_eq_true rfl) trivial ?_
  refine r_aload_n X dX1_copyFrom_52 rfl 0 rfl ?_
  refine tw_g1_5 (k := th) (v := .ref (tw_zB z + (th + 9))) X dX1_copyFrom_53 _ tw_w128 hth rfl ?_
  refine r_aload_n X dX1_copyFrom_56 rfl 1 rfl ?_
  refine tw_g1_5 (k := r0) (v := .ref (tw_zB z + (r0 + 9))) X dX1_copyFrom_57 _ tw_w128 hr0 rfl ?_
  refine r_bd (fun r6 hr6 => ?_)
  refine tw_c_X7_copyFrom X dX1_copyFrom_60 _ tw_w493 (tw_k1_5 hth) (tw_k1_5 hr0) hr6 (tw_le hfr rfl) (tw_le hlo rfl) hcs (Nat.le_of_ble_eq_true rfl) trivial ?_
  refine r_aload_n X dX1_copyFrom_63 rfl 0 rfl ?_
  refine tw_g1_6 (k := th) (v := .ref (tw_zB z + (th + 11))) X dX1_copyFrom_64 _ tw_w131 hth rfl ?_
  refine r_aload_n X dX1_copyFrom_67 rfl 1 rfl ?_
  refine tw_g1_6 (k := r0) (v := .ref (tw_zB z + (r0 + 11))) X dX1_copyFrom_68 _ tw_w131 hr0 rfl ?_
  refine r_bd (fun r7 hr7 => ?_)
  refine tw_c_X7_copyFrom X dX1_copyFrom_71 _ tw_w493 (tw_k1_6 hth) (tw_k1_6 hr0) hr7 (tw_le hfr rfl) (tw_le hlo rfl) hcs (Nat.le_of_ble_eq_true rfl) trivial ?_
  refine r_aload_n X dX1_copyFrom_74 rfl 0 rfl ?_
  refine tw_g1_7 (k := th) (v := .ref (tw_zB z + (th + 13))) X dX1_copyFrom_75 _ tw_w134 hth rfl ?_
  refine r_aload_n X dX1_copyFrom_78 rfl 1 rfl ?_
  refine tw_g1_7 (k := r0) (v := .ref (tw_zB z + (r0 + 13))) X dX1_copyFrom_79 _ tw_w134 hr0 rfl ?_
  refine r_bd (fun r8 hr8 => ?_)
  refine tw_c_X7_copyFrom X dX1_copyFrom_82 _ tw_w493 (tw_k1_7 hth) (tw_k1_7 hr0) hr8 (tw_le hfr rfl) (tw_le hlo rfl) hcs (Nat.le_of_ble_eq_true rfl) trivial ?_
  refine r_aload_n X dX1_copyFrom_85 rfl 0 rfl ?_
  refine tw_g1_8 (k := th) (v := .ref (tw_zB z + (th + 15))) X dX1_copyFrom_86 _ tw_w137 hth rfl ?_
  refine r_aload_n X dX1_copyFrom_89 rfl 1 rfl ?_
  refine tw_g1_8 (k := r0) (v := .ref (tw_zB z + (r0 + 15))) X dX1_copyFrom_90 _ tw_w137 hr0 rfl ?_
  refine r_bd (fun r9 hr9 => ?_)
  refine tw_c_X7_copyFrom X dX1_copyFrom_93 _ tw_w493 (tw_k1_8 hth) (tw_k1_8 hr0) hr9 (tw_le hfr rfl) (tw_le hlo rfl) hcs (Nat.le_of_ble_eq_true rfl) trivial ?_
  refine r_aload_n X dX1_copyFrom_96 rfl 0 rfl ?_
  refine tw_g1_9 (k := th) (v := .ref (tw_zB z + (th + 17))) X dX1_copyFrom_97 _ tw_w140 hth rfl ?_
  refine r_aload_n X dX1_copyFrom_100 rfl 1 rfl ?_
  refine tw_g1_9 (k := r0) (v := .ref (tw_zB z + (r0 + 17))) X dX1_copyFrom_101 _ tw_w140 hr0 rfl ?_
  refine r_bd (fun r10 hr10 => ?_)
  refine tw_c_X7_copyFrom X dX1_copyFrom_104 _ tw_w493 (tw_k1_9 hth) (tw_k1_9 hr0) hr10 (tw_le hfr rfl) (tw_le hlo rfl) hcs (Nat.le_of_ble_eq_true rfl) trivial ?_
  exact r_vret X dX1_copyFrom_107 hret hQ rfl
theorem tw_c_X1_copyFrom {ρ : Type} {z : tw_Z} {cc : ByteArray} {own : String} {nL pc : Nat} {σ : tw_Sg} {L : List (Nat × Value)} {st : List Value} {ix : Nat} {th : Nat} {r0 : Nat} (X : tw_X z cc own nL) (d : decode cc pc = .ok (.invokevirtual ix, 3)) (i : Nat) (hi : lw_tbl[i]? = some (.methodLink own ix yX1_copyFrom)) (hth : tw_kd th = 1) (hr0 : tw_kd r0 = 1) {res : ρ} {E : Option ρ} {r : tw_Sg} (h : tw_P_X1_copyFrom th r0 σ = some r) (h1 : 3 ≤ (tw_zR z).frames) (h2 : 103 ≤ (tw_zR z).locals) (hcs : tw_zcells z ≤ (tw_zR z).cells ∧ tw_zslots z ≤ (tw_zR z).slots) (hst : (st.map fun v => v.category).sum ≤ 8) (_ : True) (kk : tw_Rf z res E r (pc + 3) L (st)) : tw_Rf z res E σ pc L (.ref (tw_zB z + r0) :: .ref (tw_zB z + th) :: st) := r_callV (As := [.ref (tw_zB z + r0)]) X d (tw_m_X1_copyFrom hth hr0 h) tw_y_X1_copyFrom tw_v_X1_copyFrom i hi rfl (tw_kd_lt hth (by decide)) (tw_E1 hth) rfl ⟨rfl, rfl, h1, h2⟩ hcs hst rfl kk
