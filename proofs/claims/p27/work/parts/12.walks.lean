def tw_P_X5_at (th : Nat) (x0 : Int32) (σ : tw_Sg) : Option (Nat) :=
tw_jn (fun (a1 : Option Nat) =>
tw_jn (fun (a3 : Nat) =>
some a3) (fun (j4 : (Nat) → Option (Nat)) =>
tw_mt a1 (j4 (th + 1)) (fun q5 =>
j4 q5))) (fun (j2 : (Option Nat) → Option (Nat)) =>
tw_jn (fun (a7 : Unit) =>
j2 none) (fun (j8 : (Unit) → Option (Nat)) =>
if x0 < 0 then (j8 ())
else (if (Int32.ofNat (tw_ln (th + 3))) ≤ x0 then (j8 ())
else (tw_ck (tw_ok x0 (tw_ln (th + 3))) (
j2 (some ((th + 3) + 1 + 2 * Int32.toNatClampNeg x0)))))))
theorem tw_y_X5_at : tw_My yX5_at cX5_at 3 (some (.object "TreasureWalk$Cells")) 1 := ⟨List.mem_of_getElem? tw_w541, List.mem_of_getElem? tw_w43, by decide +kernel, by decide +kernel, by decide +kernel⟩
theorem tw_v_X5_at : tw_Mv yX5_at "TreasureWalk$Layers" := ⟨List.mem_of_getElem? tw_w539, List.mem_of_getElem? tw_w540, rfl⟩
set_option maxRecDepth 100000 in
set_option maxHeartbeats 4000000 in
theorem tw_m_X5_at {l : Launch} {B : Nat} {D : tw_G} {C : Nat → ClassId} {S : Nat → Nat} {th : Nat} {x0 : Int32} {σ : tw_Sg} (hth : tw_kd th = 5) {r : Nat} (h : tw_P_X5_at th x0 σ = some r) : tw_Met l B D C S yX5_at cX5_at 3 (some (.object "TreasureWalk$Cells")) ({ frames := 0, cells := 0, slots := 0, locals := 0 } : Room) [.ref (B + th), .int x0] σ (some (.ref (B + r))) σ := by
  refine tw_metOfP (tw_P_X5_at th x0 σ) r h (fun r => (some (.ref (B + r)), σ)) (by decide +kernel) (Nat.le_of_ble_eq_true rfl) ⟨rfl, rfl⟩ ?_
  intro z el eB eD eC eS hfr hlo hcs X hret hQ
  subst el eB eD eC eS
  have X : tw_X z cX5_at "TreasureWalk$Layers" 3 := X
  show tw_Rf z r _ σ 0 [(0, .ref (tw_zB z + th)), (1, .int x0)] []
  unfold tw_P_X5_at
  refine r_iload_n X dX5_at_0 rfl 1 rfl ?_
  refine r_jn (α := Option Nat) (σJ := fun a1 => σ) (pcJ := 23) (LJ := fun a1 => [(0, .ref (tw_zB z + th))]) (stJ := fun a1 => [va_rf (Option.map (fun k => tw_zB z + k) a1)]) (ok := fun a1 => ∀ x, a1 = some x → tw_kd x = 0) (fun a1 hoka1 => ?_) (fun j2 hj2 => ?_)
  ·
    refine r_astore_rn X dX5_at_23 rfl (by decide) (L' := [(2, va_rf (Option.map (fun k => tw_zB z + k) a1)), (0, .ref (tw_zB z + th))]) rfl ?_
    refine r_aload_rn X dX5_at_24 rfl 0 rfl ?_
    refine r_jn (α := Nat) (σJ := fun a3 => σ) (pcJ := 36) (LJ := fun a3 => []) (stJ := fun a3 => [.ref (tw_zB z + a3)]) (ok := fun a3 => tw_kd a3 = 0) (fun a3 hoka3 => ?_) (fun j4 hj4 => ?_)
    ·
      exact r_aret X dX5_at_36 hret hQ rfl
    refine r_ifnonnull X dX5_at_25 (tgt := 35) (by decide) (fun h6 => ?_) (fun q5 h6 => ?_)
    ·
      rw [h6]
      show tw_Rf z _ _ _ _ [(2, .null), (0, .ref (tw_zB z + th))] _
      refine r_aload_n X dX5_at_28 rfl 1 rfl ?_
      refine tw_g5_1 (k := th) (v := .ref (tw_zB z + (th + 1))) X dX5_at_29 _ tw_w282 hth rfl ?_
      refine r_goto X dX5_at_32 (tgt := 36) (by decide) ?_
      exact tw_Rf.sub [] rfl (hj4 (th + 1) (tw_k5_1 hth))
    ·
      rw [h6]
      show tw_Rf z _ _ _ _ [(2, .ref (tw_zB z + q5)), (0, .ref (tw_zB z + th))] _
      refine r_aload_n X dX5_at_35 rfl 0 rfl ?_
      exact tw_Rf.sub [] rfl (hj4 q5 (hoka1 q5 h6))
  refine r_jn (α := Unit) (σJ := fun a7 => σ) (pcJ := 22) (LJ := fun a7 => [(0, .ref (tw_zB z + th))]) (stJ := fun a7 => []) (ok := fun a7 => True) (fun a7 hoka7 => ?_) (fun j8 hj8 => ?_)
  ·
    refine r_null X dX5_at_22 ?_
    exact hj2 none (fun x h => by cases h)
  refine r_if_lt X dX5_at_1 (tgt := 22) (by decide) ?_ ?_
  ·
    exact tw_Rf.sub [0] rfl (hj8 () trivial)
  ·
    refine r_iload_n X dX5_at_4 rfl 1 rfl ?_
    refine r_aload_n X dX5_at_5 rfl 0 rfl ?_
    refine tw_g5_0 (k := th) (v := .ref (tw_zB z + (th + 3))) X dX5_at_6 _ tw_w281 hth rfl ?_
    refine r_alenR (j := 0) (k := (th + 3)) X dX5_at_9 (tw_kd_lt (tw_k5_0 hth) (by decide)) (tw_E15 (tw_k5_0 hth)) rfl rfl ?_
    refine r_icmp_ge X dX5_at_10 (tgt := 22) (by decide) ?_ ?_
    ·
      exact tw_Rf.sub [0] rfl (hj8 () trivial)
    ·
      refine r_aload_n X dX5_at_13 rfl 0 rfl ?_
      refine tw_g5_0 (k := th) (v := .ref (tw_zB z + (th + 3))) X dX5_at_14 _ tw_w281 hth rfl ?_
      refine r_iload_n X dX5_at_17 rfl 1 rfl ?_
      refine r_aald (k := (th + 3)) (r := (th + 3) + 1 + 2 * Int32.toNatClampNeg x0) X dX5_at_18 (tw_kd_lt (tw_k5_0 hth) (by decide)) (tw_E15 (tw_k5_0 hth)) rfl rfl rfl (fun h9 => ?_)
      refine r_goto X dX5_at_19 (tgt := 23) (by decide) ?_
      exact tw_Rf.sub [0] rfl (hj2 (some ((th + 3) + 1 + 2 * Int32.toNatClampNeg x0)) (fun x h => by cases h; exact (tw_ke15 (tw_k5_0 hth) (tw_ok_lt h9))))
theorem tw_c_X5_at {ρ : Type} {z : tw_Z} {cc : ByteArray} {own : String} {nL pc : Nat} {σ : tw_Sg} {L : List (Nat × Value)} {st : List Value} {ix : Nat} {th : Nat} {x0 : Int32} (X : tw_X z cc own nL) (d : decode cc pc = .ok (.invokevirtual ix, 3)) (i : Nat) (hi : lw_tbl[i]? = some (.methodLink own ix yX5_at)) (hth : tw_kd th = 5) {res : ρ} {E : Option ρ} {r : Nat} (h : tw_P_X5_at th x0 σ = some r) (h1 : 1 ≤ (tw_zR z).frames) (h2 : 22 ≤ (tw_zR z).locals) (hcs : tw_zcells z ≤ (tw_zR z).cells ∧ tw_zslots z ≤ (tw_zR z).slots) (hst : (st.map fun v => v.category).sum ≤ 8) (_ : True) (kk : tw_Rf z res E σ (pc + 3) L (.ref (tw_zB z + r) :: st)) : tw_Rf z res E σ pc L (.int x0 :: .ref (tw_zB z + th) :: st) := r_callV (As := [.int x0]) X d (tw_m_X5_at hth h) tw_y_X5_at tw_v_X5_at i hi rfl (tw_kd_lt hth (by decide)) (tw_E5 hth) rfl ⟨rfl, rfl, h1, h2⟩ hcs hst rfl kk
def tw_P_X5_clear (n : Nat) (th : Nat) (σ : tw_Sg) : Option (tw_Sg) :=
tw_lt (0 : Int32) (fun (v1 : Int32) =>
tw_lp (fun (k3 : (Int32 × tw_Sg) → Option (tw_Sg)) (a2 : Int32 × tw_Sg) =>
if (Int32.ofNat (tw_ln (th + 3))) ≤ a2.1 then (some a2.2)
else (tw_bd (tw_P_X5_at th a2.1 a2.2) (fun r4 =>
tw_ck (decide (tw_kd r4 = 0)) (
tw_bd (tw_P_X0_clear n r4 a2.2) (fun r6 =>
tw_lt (a2.1 + (1 : Int32)) (fun (v7 : Int32) =>
k3 (v7, r6))))))) n (v1, σ))
theorem tw_y_X5_clear : tw_My yX5_clear cX5_clear 2 none 0 := ⟨List.mem_of_getElem? tw_w537, List.mem_of_getElem? tw_w43, by decide +kernel, by decide +kernel, by decide +kernel⟩
theorem tw_v_X5_clear : tw_Mv yX5_clear "TreasureWalk$Layers" := ⟨List.mem_of_getElem? tw_w535, List.mem_of_getElem? tw_w536, rfl⟩
set_option maxRecDepth 100000 in
set_option maxHeartbeats 4000000 in
theorem tw_m_X5_clear {l : Launch} {B : Nat} {D : tw_G} {C : Nat → ClassId} {S : Nat → Nat} {n : Nat} {th : Nat} {σ : tw_Sg} (hth : tw_kd th = 5) {r : tw_Sg} (h : tw_P_X5_clear n th σ = some r) : tw_Met l B D C S yX5_clear cX5_clear 2 none ({ frames := 2, cells := 0, slots := 0, locals := 43 } : Room) [.ref (B + th)] σ (none) r := by
  refine tw_metOfP (tw_P_X5_clear n th σ) r h (fun r => (none, r)) (by decide +kernel) (Nat.le_of_ble_eq_true rfl) ⟨rfl, rfl⟩ ?_
  intro z el eB eD eC eS hfr hlo hcs X hret hQ
  subst el eB eD eC eS
  have X : tw_X z cX5_clear "TreasureWalk$Layers" 2 := X
  show tw_Rf z r _ σ 0 [(0, .ref (tw_zB z + th))] []
  unfold tw_P_X5_clear
  refine r_iconst X dX5_clear_0 (v := (0 : Int32)) (by decide) ?_
  refine r_istore_n X dX5_clear_1 rfl (by decide) (LL := fun v1 => [(1, .int v1), (0, .ref (tw_zB z + th))]) (fun _ => rfl) (fun v1 => ?_)
  refine r_lp (α := Int32 × tw_Sg) (σJ := fun a2 => a2.2) (pcJ := 2) (LJ := fun a2 => [(1, .int a2.1), (0, .ref (tw_zB z + th))]) (stJ := fun a2 => []) (fun k3 hk3 a2 => ?_) n (v1, σ)
  refine r_iload_n X dX5_clear_2 rfl 0 rfl ?_
  refine r_aload_n X dX5_clear_3 rfl 1 rfl ?_
  refine tw_g5_0 (k := th) (v := .ref (tw_zB z + (th + 3))) X dX5_clear_4 _ tw_w281 hth rfl ?_
  refine r_alenR (j := 0) (k := (th + 3)) X dX5_clear_7 (tw_kd_lt (tw_k5_0 hth) (by decide)) (tw_E15 (tw_k5_0 hth)) rfl rfl ?_
  refine r_icmp_ge X dX5_clear_8 (tgt := 25) (by decide) ?_ ?_
  ·
    exact r_vret X dX5_clear_25 hret hQ rfl
  ·
    refine r_aload_n X dX5_clear_11 rfl 1 rfl ?_
    refine r_iload_n X dX5_clear_12 rfl 0 rfl ?_
    refine r_bd (fun r4 hr4 => ?_)
    refine tw_c_X5_at X dX5_clear_13 _ tw_w538 hth hr4 (tw_le hfr rfl) (tw_le hlo rfl) hcs (Nat.le_of_ble_eq_true rfl) trivial ?_
    refine r_ck (fun h5 => ?_)
    refine r_bd (fun r6 hr6 => ?_)
    refine tw_c_X0_clear X dX5_clear_16 _ tw_w542 (of_decide_eq_true h5) hr6 (tw_le hfr rfl) (tw_le hlo rfl) hcs (Nat.le_of_ble_eq_true rfl) trivial ?_
    refine r_iinc X dX5_clear_19 0 rfl (v := (1 : Int32)) (by decide) (by decide) (LL := fun v7 => [(1, .int v7), (0, .ref (tw_zB z + th))]) (fun _ => rfl) (fun v7 => ?_)
    refine r_goto X dX5_clear_22 (tgt := 2) (by decide) ?_
    exact hk3 (v7, r6)
theorem tw_c_X5_clear {ρ : Type} {z : tw_Z} {cc : ByteArray} {own : String} {nL pc : Nat} {σ : tw_Sg} {L : List (Nat × Value)} {st : List Value} {ix : Nat} {n : Nat} {th : Nat} (X : tw_X z cc own nL) (d : decode cc pc = .ok (.invokevirtual ix, 3)) (i : Nat) (hi : lw_tbl[i]? = some (.methodLink own ix yX5_clear)) (hth : tw_kd th = 5) {res : ρ} {E : Option ρ} {r : tw_Sg} (h : tw_P_X5_clear n th σ = some r) (h1 : 3 ≤ (tw_zR z).frames) (h2 : 64 ≤ (tw_zR z).locals) (hcs : tw_zcells z ≤ (tw_zR z).cells ∧ tw_zslots z ≤ (tw_zR z).slots) (hst : (st.map fun v => v.category).sum ≤ 8) (_ : True) (kk : tw_Rf z res E r (pc + 3) L (st)) : tw_Rf z res E σ pc L (.ref (tw_zB z + th) :: st) := r_callV (As := []) X d (tw_m_X5_clear hth h) tw_y_X5_clear tw_v_X5_clear i hi rfl (tw_kd_lt hth (by decide)) (tw_E5 hth) rfl ⟨rfl, rfl, h1, h2⟩ hcs hst rfl kk
def tw_P_X6_addBytes (n : Nat) (x0 : Int32) (σ : tw_Sg) : Option (tw_Sg) :=
tw_lt (24 : Int32) (fun (v1 : Int32) =>
tw_lp (fun (k3 : (Int32 × tw_Sg) → Option (tw_Sg)) (a2 : Int32 × tw_Sg) =>
if a2.1 < 0 then (some a2.2)
else (tw_bd (tw_P_X7_put 401 (a2.2 400 1) ((Int32.toUInt32 x0 >>> (Int32.toUInt32 a2.1 &&& Int32.toUInt32 31)).toInt32 &&& (255 : Int32)) a2.2) (fun r4 =>
tw_lt (tw_up r4 400 1 ((r4 400 1) + (1 : Int32))) (fun (σ5 : tw_Sg) =>
tw_lt (a2.1 + (-8 : Int32)) (fun (v6 : Int32) =>
k3 (v6, σ5)))))) n (v1, σ))
theorem tw_y_X6_addBytes : tw_My yX6_addBytes cX6_addBytes 3 none 1 := ⟨List.mem_of_getElem? tw_w1260, List.mem_of_getElem? tw_w47, by decide +kernel, by decide +kernel, by decide +kernel⟩
theorem tw_v_X6_addBytes : tw_Mv yX6_addBytes "TreasureWalk$Reader" := ⟨List.mem_of_getElem? tw_w1258, List.mem_of_getElem? tw_w1259, rfl⟩
set_option maxRecDepth 100000 in
set_option maxHeartbeats 4000000 in
theorem tw_m_X6_addBytes {l : Launch} {B : Nat} {D : tw_G} {C : Nat → ClassId} {S : Nat → Nat} {n : Nat} {x0 : Int32} {σ : tw_Sg}  {r : tw_Sg} (h : tw_P_X6_addBytes n x0 σ = some r) : tw_Met l B D C S yX6_addBytes cX6_addBytes 3 none ({ frames := 1, cells := 0, slots := 0, locals := 22 } : Room) [.ref (B + 400), .int x0] σ (none) r := by
  refine tw_metOfP (tw_P_X6_addBytes n x0 σ) r h (fun r => (none, r)) (by decide +kernel) (Nat.le_of_ble_eq_true rfl) ⟨rfl, rfl⟩ ?_
  intro z el eB eD eC eS hfr hlo hcs X hret hQ
  subst el eB eD eC eS
  have X : tw_X z cX6_addBytes "TreasureWalk$Reader" 3 := X
  show tw_Rf z r _ σ 0 [(0, .ref (tw_zB z + 400)), (1, .int x0)] []
  unfold tw_P_X6_addBytes
  refine r_bipush X dX6_addBytes_0 (v := (24 : Int32)) (by decide) ?_
  refine r_istore_n X dX6_addBytes_2 rfl (by decide) (LL := fun v1 => [(2, .int v1), (0, .ref (tw_zB z + 400)), (1, .int x0)]) (fun _ => rfl) (fun v1 => ?_)
  refine r_lp (α := Int32 × tw_Sg) (σJ := fun a2 => a2.2) (pcJ := 3) (LJ := fun a2 => [(2, .int a2.1), (0, .ref (tw_zB z + 400)), (1, .int x0)]) (stJ := fun a2 => []) (fun k3 hk3 a2 => ?_) n (v1, σ)
  refine r_iload_n X dX6_addBytes_3 rfl 0 rfl ?_
  refine r_if_lt X dX6_addBytes_4 (tgt := 41) (by decide) ?_ ?_
  ·
    exact r_vret X dX6_addBytes_41 hret hQ rfl
  ·
    refine r_aload_n X dX6_addBytes_7 rfl 1 rfl ?_
    refine tw_g6_0 (k := 400) (v := .ref (tw_zB z + 401)) X dX6_addBytes_8 _ tw_w368 tw_kc400 rfl ?_
    refine r_aload_n X dX6_addBytes_11 rfl 1 rfl ?_
    refine tw_g6_1 (k := 400) (v := .int (a2.2 400 1)) X dX6_addBytes_12 _ tw_w370 tw_kc400 rfl ?_
    refine r_iload_n X dX6_addBytes_15 rfl 2 rfl ?_
    refine r_iload_n X dX6_addBytes_16 rfl 0 rfl ?_
    refine r_iushr X dX6_addBytes_17 ?_
    refine r_sipush X dX6_addBytes_18 (v := (255 : Int32)) (by decide) ?_
    refine r_iand X dX6_addBytes_21 ?_
    refine r_bd (fun r4 hr4 => ?_)
    refine tw_c_X7_put X dX6_addBytes_22 _ tw_w972 tw_kc401 hr4 (tw_le hfr rfl) (tw_le hlo rfl) hcs (Nat.le_of_ble_eq_true rfl) trivial ?_
    refine r_aload_n X dX6_addBytes_25 rfl 1 rfl ?_
    refine r_dup X dX6_addBytes_26 rfl ?_
    refine tw_g6_1 (k := 400) (v := .int (r4 400 1)) X dX6_addBytes_27 _ tw_w370 tw_kc400 rfl ?_
    refine r_iconst X dX6_addBytes_30 (v := (1 : Int32)) (by decide) ?_
    refine r_iadd X dX6_addBytes_31 ?_
    refine tw_s6_1 (k := 400) X dX6_addBytes_32 _ tw_w370 tw_kc400 (fun σ5 => ?_)
    refine r_iinc X dX6_addBytes_35 0 rfl (v := (-8 : Int32)) (by decide) (by decide) (LL := fun v6 => [(2, .int v6), (0, .ref (tw_zB z + 400)), (1, .int x0)]) (fun _ => rfl) (fun v6 => ?_)
    refine r_goto X dX6_addBytes_38 (tgt := 3) (by decide) ?_
    exact hk3 (v6, σ5)
theorem tw_c_X6_addBytes {ρ : Type} {z : tw_Z} {cc : ByteArray} {own : String} {nL pc : Nat} {σ : tw_Sg} {L : List (Nat × Value)} {st : List Value} {ix : Nat} {n : Nat} {x0 : Int32} (X : tw_X z cc own nL) (d : decode cc pc = .ok (.invokevirtual ix, 3)) (i : Nat) (hi : lw_tbl[i]? = some (.methodLink own ix yX6_addBytes))  {res : ρ} {E : Option ρ} {r : tw_Sg} (h : tw_P_X6_addBytes n x0 σ = some r) (h1 : 2 ≤ (tw_zR z).frames) (h2 : 44 ≤ (tw_zR z).locals) (hcs : tw_zcells z ≤ (tw_zR z).cells ∧ tw_zslots z ≤ (tw_zR z).slots) (hst : (st.map fun v => v.category).sum ≤ 8) (_ : True) (kk : tw_Rf z res E r (pc + 3) L (st)) : tw_Rf z res E σ pc L (.int x0 :: .ref (tw_zB z + 400) :: st) := r_callV (As := [.int x0]) X d (tw_m_X6_addBytes  h) tw_y_X6_addBytes tw_v_X6_addBytes i hi rfl (tw_kd_lt tw_kc400 (by decide)) (tw_E6 tw_kc400) rfl ⟨rfl, rfl, h1, h2⟩ hcs hst rfl kk
def tw_P_X6_kindOf (x0 : Int32) (σ : tw_Sg) : Option (Int32) :=
tw_jn (fun (a1 : Unit) =>
tw_jn (fun (a3 : Int32) =>
some a3) (fun (j4 : (Int32) → Option (Int32)) =>
tw_jn (fun (a5 : Unit) =>
j4 (3 : Int32)) (fun (j6 : (Unit) → Option (Int32)) =>
if x0 < (48 : Int32) then (j6 ())
else (if (57 : Int32) < x0 then (j6 ())
else (j4 (2 : Int32)))))) (fun (j2 : (Unit) → Option (Int32)) =>
if x0 < (97 : Int32) then (j2 ())
else (if (122 : Int32) < x0 then (j2 ())
else (some (1 : Int32))))
theorem tw_y_X6_kindOf : tw_My yX6_kindOf cX6_kindOf 1 (some .int) 1 := ⟨List.mem_of_getElem? tw_w835, List.mem_of_getElem? tw_w47, by decide +kernel, by decide +kernel, by decide +kernel⟩
theorem tw_v_X6_kindOf : tw_Ms yX6_kindOf := List.mem_of_getElem? tw_w834
set_option maxRecDepth 100000 in
set_option maxHeartbeats 4000000 in
theorem tw_m_X6_kindOf {l : Launch} {B : Nat} {D : tw_G} {C : Nat → ClassId} {S : Nat → Nat} {x0 : Int32} {σ : tw_Sg}  {r : Int32} (h : tw_P_X6_kindOf x0 σ = some r) : tw_Met l B D C S yX6_kindOf cX6_kindOf 1 (some .int) ({ frames := 0, cells := 0, slots := 0, locals := 0 } : Room) [.int x0] σ (some (.int r)) σ := by
  refine tw_metOfP (tw_P_X6_kindOf x0 σ) r h (fun r => (some (.int r), σ)) (by decide +kernel) (Nat.le_of_ble_eq_true rfl) ⟨rfl, rfl⟩ ?_
  intro z el eB eD eC eS hfr hlo hcs X hret hQ
  subst el eB eD eC eS
  have X : tw_X z cX6_kindOf "TreasureWalk$Reader" 1 := X
  show tw_Rf z r _ σ 0 [(0, .int x0)] []
  unfold tw_P_X6_kindOf
  refine r_iload_n X dX6_kindOf_0 rfl 0 rfl ?_
  refine r_bipush X dX6_kindOf_1 (v := (97 : Int32)) (by decide) ?_
  refine r_jn (α := Unit) (σJ := fun a1 => σ) (pcJ := 14) (LJ := fun a1 => [(0, .int x0)]) (stJ := fun a1 => []) (ok := fun a1 => True) (fun a1 hoka1 => ?_) (fun j2 hj2 => ?_)
  ·
    refine r_iload_n X dX6_kindOf_14 rfl 0 rfl ?_
    refine r_bipush X dX6_kindOf_15 (v := (48 : Int32)) (by decide) ?_
    refine r_jn (α := Int32) (σJ := fun a3 => σ) (pcJ := 31) (LJ := fun a3 => []) (stJ := fun a3 => [.int a3]) (ok := fun a3 => True) (fun a3 hoka3 => ?_) (fun j4 hj4 => ?_)
    ·
      exact r_iret X dX6_kindOf_31 hret hQ rfl
    refine r_jn (α := Unit) (σJ := fun a5 => σ) (pcJ := 30) (LJ := fun a5 => []) (stJ := fun a5 => []) (ok := fun a5 => True) (fun a5 hoka5 => ?_) (fun j6 hj6 => ?_)
    ·
      refine r_iconst X dX6_kindOf_30 (v := (3 : Int32)) (by decide) ?_
      exact hj4 (3 : Int32) trivial
    refine r_icmp_lt X dX6_kindOf_17 (tgt := 30) (by decide) ?_ ?_
    ·
      exact tw_Rf.sub [] rfl (hj6 () trivial)
    ·
      refine r_iload_n X dX6_kindOf_20 rfl 0 rfl ?_
      refine r_bipush X dX6_kindOf_21 (v := (57 : Int32)) (by decide) ?_
      refine r_icmp_gt X dX6_kindOf_23 (tgt := 30) (by decide) ?_ ?_
      ·
        exact tw_Rf.sub [] rfl (hj6 () trivial)
      ·
        refine r_iconst X dX6_kindOf_26 (v := (2 : Int32)) (by decide) ?_
        refine r_goto X dX6_kindOf_27 (tgt := 31) (by decide) ?_
        exact tw_Rf.sub [] rfl (hj4 (2 : Int32) trivial)
  refine r_icmp_lt X dX6_kindOf_3 (tgt := 14) (by decide) ?_ ?_
  ·
    exact hj2 () trivial
  ·
    refine r_iload_n X dX6_kindOf_6 rfl 0 rfl ?_
    refine r_bipush X dX6_kindOf_7 (v := (122 : Int32)) (by decide) ?_
    refine r_icmp_gt X dX6_kindOf_9 (tgt := 14) (by decide) ?_ ?_
    ·
      exact hj2 () trivial
    ·
      refine r_iconst X dX6_kindOf_12 (v := (1 : Int32)) (by decide) ?_
      exact r_iret X dX6_kindOf_13 hret hQ rfl
theorem tw_c_X6_kindOf {ρ : Type} {z : tw_Z} {cc : ByteArray} {own : String} {nL pc : Nat} {σ : tw_Sg} {L : List (Nat × Value)} {st : List Value} {ix : Nat} {x0 : Int32} (X : tw_X z cc own nL) (d : decode cc pc = .ok (.invokestatic ix, 3)) (i : Nat) (hi : lw_tbl[i]? = some (.methodLink own ix yX6_kindOf))  {res : ρ} {E : Option ρ} {r : Int32} (h : tw_P_X6_kindOf x0 σ = some r) (h1 : 1 ≤ (tw_zR z).frames) (h2 : 20 ≤ (tw_zR z).locals) (hcs : tw_zcells z ≤ (tw_zR z).cells ∧ tw_zslots z ≤ (tw_zR z).slots) (hst : (st.map fun v => v.category).sum ≤ 8) (_ : True) (kk : tw_Rf z res E σ (pc + 3) L (.int r :: st)) : tw_Rf z res E σ pc L (.int x0 :: st) := r_callS (As := [.int x0]) X d (tw_m_X6_kindOf  h) tw_y_X6_kindOf tw_v_X6_kindOf i hi rfl ⟨rfl, rfl, h1, h2⟩ hcs hst rfl kk
def tw_P_X6_advance (n : Nat)  (σ : tw_Sg) : Option (tw_Sg) :=
tw_lt (tw_up σ 400 4 (σ 400 5)) (fun (σ1 : tw_Sg) =>
tw_lp (fun (k3 : (tw_Sg) → Option (tw_Sg)) (a2 : tw_Sg) =>
tw_jn (fun (a4 : Unit) =>
tw_jn (fun (a6 : Int32) =>
tw_lt (tw_up a2 400 6 a6) (fun (σ8 : tw_Sg) =>
tw_jn (fun (a9 : Int32) =>
tw_lt (tw_up σ8 400 5 a9) (fun (σ11 : tw_Sg) =>
tw_lp (fun (k13 : (tw_Sg) → Option (tw_Sg)) (a12 : tw_Sg) =>
tw_jn (fun (a14 : Unit) =>
some a12) (fun (j15 : (Unit) → Option (tw_Sg)) =>
if (a12 400 6) = (3 : Int32) then (j15 ())
else (if (a12 400 3) ≤ (a12 400 5) then (j15 ())
else (tw_bd (tw_P_X7_get 401 (a12 400 5) a12) (fun r16 =>
tw_bd (tw_P_X6_kindOf r16 a12) (fun r17 =>
if ¬ r17 = (a12 400 6) then (j15 ())
else (tw_lt (tw_up a12 400 5 ((a12 400 5) + (1 : Int32))) (fun (σ18 : tw_Sg) =>
k13 σ18)))))))) n σ11)) (fun (j10 : (Int32) → Option (tw_Sg)) =>
if (σ8 400 3) ≤ (σ8 400 4) then (j10 (σ8 400 3))
else (j10 ((σ8 400 4) + (1 : Int32)))))) (fun (j7 : (Int32) → Option (tw_Sg)) =>
if (a2 400 3) ≤ (a2 400 4) then (j7 (0 : Int32))
else (tw_bd (tw_P_X7_get 401 (a2 400 4) a2) (fun r19 =>
tw_bd (tw_P_X6_kindOf r19 a2) (fun r20 =>
j7 r20))))) (fun (j5 : (Unit) → Option (tw_Sg)) =>
if (a2 400 3) ≤ (a2 400 4) then (j5 ())
else (tw_bd (tw_P_X7_get 401 (a2 400 4) a2) (fun r21 =>
if ¬ r21 = (32 : Int32) then (j5 ())
else (tw_lt (tw_up a2 400 4 ((a2 400 4) + (1 : Int32))) (fun (σ22 : tw_Sg) =>
k3 σ22)))))) n σ1)
theorem tw_y_X6_advance : tw_My yX6_advance cX6_advance 1 none 0 := ⟨List.mem_of_getElem? tw_w831, List.mem_of_getElem? tw_w47, by decide +kernel, by decide +kernel, by decide +kernel⟩
theorem tw_v_X6_advance : tw_Mv yX6_advance "TreasureWalk$Reader" := ⟨List.mem_of_getElem? tw_w830, List.mem_of_getElem? tw_w8, rfl⟩
set_option maxRecDepth 100000 in
set_option maxHeartbeats 4000000 in
theorem tw_m_X6_advance {l : Launch} {B : Nat} {D : tw_G} {C : Nat → ClassId} {S : Nat → Nat} {n : Nat}  {σ : tw_Sg}  {r : tw_Sg} (h : tw_P_X6_advance n σ = some r) : tw_Met l B D C S yX6_advance cX6_advance 1 none ({ frames := 1, cells := 0, slots := 0, locals := 21 } : Room) [.ref (B + 400)] σ (none) r := by
  refine tw_metOfP (tw_P_X6_advance n σ) r h (fun r => (none, r)) (by decide +kernel) (Nat.le_of_ble_eq_true rfl) ⟨rfl, rfl⟩ ?_
  intro z el eB eD eC eS hfr hlo hcs X hret hQ
  subst el eB eD eC eS
  have X : tw_X z cX6_advance "TreasureWalk$Reader" 1 := X
  show tw_Rf z r _ σ 0 [(0, .ref (tw_zB z + 400))] []
  unfold tw_P_X6_advance
  refine r_aload_n X dX6_advance_0 rfl 0 rfl ?_
  refine r_aload_n X dX6_advance_1 rfl 0 rfl ?_
  refine tw_g6_5 (k := 400) (v := .int (σ 400 5)) X dX6_advance_2 _ tw_w375 tw_kc400 rfl ?_
  refine tw_s6_4 (k := 400) X dX6_advance_5 _ tw_w374 tw_kc400 (fun σ1 => ?_)
  refine r_lp (α := tw_Sg) (σJ := fun a2 => a2) (pcJ := 8) (LJ := fun a2 => [(0, .ref (tw_zB z + 400))]) (stJ := fun a2 => []) (fun k3 hk3 a2 => ?_) n σ1
  refine r_aload_n X dX6_advance_8 rfl 0 rfl ?_
  refine tw_g6_4 (k := 400) (v := .int (a2 400 4)) X dX6_advance_9 _ tw_w374 tw_kc400 rfl ?_
  refine r_aload_n X dX6_advance_12 rfl 0 rfl ?_
  refine tw_g6_3 (k := 400) (v := .int (a2 400 3)) X dX6_advance_13 _ tw_w373 tw_kc400 rfl ?_
  refine r_jn (α := Unit) (σJ := fun a4 => a2) (pcJ := 48) (LJ := fun a4 => [(0, .ref (tw_zB z + 400))]) (stJ := fun a4 => []) (ok := fun a4 => True) (fun a4 hoka4 => ?_) (fun j5 hj5 => ?_)
  ·
    refine r_aload_n X dX6_advance_48 rfl 0 rfl ?_
    refine r_aload_n X dX6_advance_49 rfl 0 rfl ?_
    refine tw_g6_4 (k := 400) (v := .int (a2 400 4)) X dX6_advance_50 _ tw_w374 tw_kc400 rfl ?_
    refine r_aload_n X dX6_advance_53 rfl 0 rfl ?_
    refine tw_g6_3 (k := 400) (v := .int (a2 400 3)) X dX6_advance_54 _ tw_w373 tw_kc400 rfl ?_
    refine r_jn (α := Int32) (σJ := fun a6 => a2) (pcJ := 78) (LJ := fun a6 => [(0, .ref (tw_zB z + 400))]) (stJ := fun a6 => [.int a6, .ref (tw_zB z + 400)]) (ok := fun a6 => True) (fun a6 hoka6 => ?_) (fun j7 hj7 => ?_)
    ·
      refine tw_s6_6 (k := 400) X dX6_advance_78 _ tw_w376 tw_kc400 (fun σ8 => ?_)
      refine r_aload_n X dX6_advance_81 rfl 0 rfl ?_
      refine r_aload_n X dX6_advance_82 rfl 0 rfl ?_
      refine tw_g6_4 (k := 400) (v := .int (σ8 400 4)) X dX6_advance_83 _ tw_w374 tw_kc400 rfl ?_
      refine r_aload_n X dX6_advance_86 rfl 0 rfl ?_
      refine tw_g6_3 (k := 400) (v := .int (σ8 400 3)) X dX6_advance_87 _ tw_w373 tw_kc400 rfl ?_
      refine r_jn (α := Int32) (σJ := fun a9 => σ8) (pcJ := 106) (LJ := fun a9 => [(0, .ref (tw_zB z + 400))]) (stJ := fun a9 => [.int a9, .ref (tw_zB z + 400)]) (ok := fun a9 => True) (fun a9 hoka9 => ?_) (fun j10 hj10 => ?_)
      ·
        refine tw_s6_5 (k := 400) X dX6_advance_106 _ tw_w375 tw_kc400 (fun σ11 => ?_)
        refine r_lp (α := tw_Sg) (σJ := fun a12 => a12) (pcJ := 109) (LJ := fun a12 => [(0, .ref (tw_zB z + 400))]) (stJ := fun a12 => []) (fun k13 hk13 a12 => ?_) n σ11
        refine r_aload_n X dX6_advance_109 rfl 0 rfl ?_
        refine tw_g6_6 (k := 400) (v := .int (a12 400 6)) X dX6_advance_110 _ tw_w376 tw_kc400 rfl ?_
        refine r_iconst X dX6_advance_113 (v := (3 : Int32)) (by decide) ?_
        refine r_jn (α := Unit) (σJ := fun a14 => a12) (pcJ := 162) (LJ := fun a14 => []) (stJ := fun a14 => []) (ok := fun a14 => True) (fun a14 hoka14 => ?_) (fun j15 hj15 => ?_)
        ·
          exact r_vret X dX6_advance_162 hret hQ rfl
        refine r_icmp_eq X dX6_advance_114 (tgt := 162) (by decide) ?_ ?_
        ·
          exact tw_Rf.sub [] rfl (hj15 () trivial)
        ·
          refine r_aload_n X dX6_advance_117 rfl 0 rfl ?_
          refine tw_g6_5 (k := 400) (v := .int (a12 400 5)) X dX6_advance_118 _ tw_w375 tw_kc400 rfl ?_
          refine r_aload_n X dX6_advance_121 rfl 0 rfl ?_
          refine tw_g6_3 (k := 400) (v := .int (a12 400 3)) X dX6_advance_122 _ tw_w373 tw_kc400 rfl ?_
          refine r_icmp_ge X dX6_advance_125 (tgt := 162) (by decide) ?_ ?_
          ·
            exact tw_Rf.sub [] rfl (hj15 () trivial)
          ·
            refine r_aload_n X dX6_advance_128 rfl 0 rfl ?_
            refine tw_g6_0 (k := 400) (v := .ref (tw_zB z + 401)) X dX6_advance_129 _ tw_w368 tw_kc400 rfl ?_
            refine r_aload_n X dX6_advance_132 rfl 0 rfl ?_
            refine tw_g6_5 (k := 400) (v := .int (a12 400 5)) X dX6_advance_133 _ tw_w375 tw_kc400 rfl ?_
            refine r_bd (fun r16 hr16 => ?_)
            refine tw_c_X7_get X dX6_advance_136 _ tw_w832 tw_kc401 hr16 (tw_le hfr rfl) (tw_le hlo rfl) hcs (Nat.le_of_ble_eq_true rfl) trivial ?_
            refine r_bd (fun r17 hr17 => ?_)
            refine tw_c_X6_kindOf X dX6_advance_139 _ tw_w833  hr17 (tw_le hfr rfl) (tw_le hlo rfl) hcs (Nat.le_of_ble_eq_true rfl) trivial ?_
            refine r_aload_n X dX6_advance_142 rfl 0 rfl ?_
            refine tw_g6_6 (k := 400) (v := .int (a12 400 6)) X dX6_advance_143 _ tw_w376 tw_kc400 rfl ?_
            refine r_icmp_ne X dX6_advance_146 (tgt := 162) (by decide) ?_ ?_
            ·
              exact tw_Rf.sub [] rfl (hj15 () trivial)
            ·
              refine r_aload_n X dX6_advance_149 rfl 0 rfl ?_
              refine r_dup X dX6_advance_150 rfl ?_
              refine tw_g6_5 (k := 400) (v := .int (a12 400 5)) X dX6_advance_151 _ tw_w375 tw_kc400 rfl ?_
              refine r_iconst X dX6_advance_154 (v := (1 : Int32)) (by decide) ?_
              refine r_iadd X dX6_advance_155 ?_
              refine tw_s6_5 (k := 400) X dX6_advance_156 _ tw_w375 tw_kc400 (fun σ18 => ?_)
              refine r_goto X dX6_advance_159 (tgt := 109) (by decide) ?_
              exact hk13 σ18
      refine r_icmp_ge X dX6_advance_90 (tgt := 102) (by decide) ?_ ?_
      ·
        refine r_aload_n X dX6_advance_102 rfl 0 rfl ?_
        refine tw_g6_3 (k := 400) (v := .int (σ8 400 3)) X dX6_advance_103 _ tw_w373 tw_kc400 rfl ?_
        exact hj10 (σ8 400 3) trivial
      ·
        refine r_aload_n X dX6_advance_93 rfl 0 rfl ?_
        refine tw_g6_4 (k := 400) (v := .int (σ8 400 4)) X dX6_advance_94 _ tw_w374 tw_kc400 rfl ?_
        refine r_iconst X dX6_advance_97 (v := (1 : Int32)) (by decide) ?_
        refine r_iadd X dX6_advance_98 ?_
        refine r_goto X dX6_advance_99 (tgt := 106) (by decide) ?_
        exact hj10 ((σ8 400 4) + (1 : Int32)) trivial
    refine r_icmp_ge X dX6_advance_57 (tgt := 77) (by decide) ?_ ?_
    ·
      refine r_iconst X dX6_advance_77 (v := (0 : Int32)) (by decide) ?_
      exact hj7 (0 : Int32) trivial
    ·
      refine r_aload_n X dX6_advance_60 rfl 0 rfl ?_
      refine tw_g6_0 (k := 400) (v := .ref (tw_zB z + 401)) X dX6_advance_61 _ tw_w368 tw_kc400 rfl ?_
      refine r_aload_n X dX6_advance_64 rfl 0 rfl ?_
      refine tw_g6_4 (k := 400) (v := .int (a2 400 4)) X dX6_advance_65 _ tw_w374 tw_kc400 rfl ?_
      refine r_bd (fun r19 hr19 => ?_)
      refine tw_c_X7_get X dX6_advance_68 _ tw_w832 tw_kc401 hr19 (tw_le hfr rfl) (tw_le hlo rfl) hcs (Nat.le_of_ble_eq_true rfl) trivial ?_
      refine r_bd (fun r20 hr20 => ?_)
      refine tw_c_X6_kindOf X dX6_advance_71 _ tw_w833  hr20 (tw_le hfr rfl) (tw_le hlo rfl) hcs (Nat.le_of_ble_eq_true rfl) trivial ?_
      refine r_goto X dX6_advance_74 (tgt := 78) (by decide) ?_
      exact hj7 r20 trivial
  refine r_icmp_ge X dX6_advance_16 (tgt := 48) (by decide) ?_ ?_
  ·
    exact hj5 () trivial
  ·
    refine r_aload_n X dX6_advance_19 rfl 0 rfl ?_
    refine tw_g6_0 (k := 400) (v := .ref (tw_zB z + 401)) X dX6_advance_20 _ tw_w368 tw_kc400 rfl ?_
    refine r_aload_n X dX6_advance_23 rfl 0 rfl ?_
    refine tw_g6_4 (k := 400) (v := .int (a2 400 4)) X dX6_advance_24 _ tw_w374 tw_kc400 rfl ?_
    refine r_bd (fun r21 hr21 => ?_)
    refine tw_c_X7_get X dX6_advance_27 _ tw_w832 tw_kc401 hr21 (tw_le hfr rfl) (tw_le hlo rfl) hcs (Nat.le_of_ble_eq_true rfl) trivial ?_
    refine r_bipush X dX6_advance_30 (v := (32 : Int32)) (by decide) ?_
    refine r_icmp_ne X dX6_advance_32 (tgt := 48) (by decide) ?_ ?_
    ·
      exact hj5 () trivial
    ·
      refine r_aload_n X dX6_advance_35 rfl 0 rfl ?_
      refine r_dup X dX6_advance_36 rfl ?_
      refine tw_g6_4 (k := 400) (v := .int (a2 400 4)) X dX6_advance_37 _ tw_w374 tw_kc400 rfl ?_
      refine r_iconst X dX6_advance_40 (v := (1 : Int32)) (by decide) ?_
      refine r_iadd X dX6_advance_41 ?_
      refine tw_s6_4 (k := 400) X dX6_advance_42 _ tw_w374 tw_kc400 (fun σ22 => ?_)
      refine r_goto X dX6_advance_45 (tgt := 8) (by decide) ?_
      exact hk3 σ22
theorem tw_c_X6_advance {ρ : Type} {z : tw_Z} {cc : ByteArray} {own : String} {nL pc : Nat} {σ : tw_Sg} {L : List (Nat × Value)} {st : List Value} {ix : Nat} {n : Nat}  (X : tw_X z cc own nL) (d : decode cc pc = .ok (.invokevirtual ix, 3)) (i : Nat) (hi : lw_tbl[i]? = some (.methodLink own ix yX6_advance))  {res : ρ} {E : Option ρ} {r : tw_Sg} (h : tw_P_X6_advance n σ = some r) (h1 : 2 ≤ (tw_zR z).frames) (h2 : 41 ≤ (tw_zR z).locals) (hcs : tw_zcells z ≤ (tw_zR z).cells ∧ tw_zslots z ≤ (tw_zR z).slots) (hst : (st.map fun v => v.category).sum ≤ 8) (_ : True) (kk : tw_Rf z res E r (pc + 3) L (st)) : tw_Rf z res E σ pc L (.ref (tw_zB z + 400) :: st) := r_callV (As := []) X d (tw_m_X6_advance  h) tw_y_X6_advance tw_v_X6_advance i hi rfl (tw_kd_lt tw_kc400 (by decide)) (tw_E6 tw_kc400) rfl ⟨rfl, rfl, h1, h2⟩ hcs hst rfl kk
def tw_P_X6_isWord (n : Nat) (w0 : Nat) (σ : tw_Sg) : Option (Int32) :=
tw_jn (fun (a1 : Unit) =>
tw_ck (tw_01 (0 : Int32)) (some (0 : Int32))) (fun (j2 : (Unit) → Option (Int32)) =>
if ¬ (σ 400 6) = (1 : Int32) then (j2 ())
else (if ((σ 400 5) - (σ 400 4)) = (Int32.ofNat (tw_len.getD w0 0)) then (tw_lt (0 : Int32) (fun (v3 : Int32) =>
tw_lp (fun (k5 : (Int32) → Option (Int32)) (a4 : Int32) =>
if (Int32.ofNat (tw_len.getD w0 0)) ≤ a4 then (tw_ck (tw_01 (1 : Int32)) (some (1 : Int32)))
else (tw_bd (tw_P_X7_get 401 ((σ 400 4) + a4) σ) (fun r6 =>
tw_ck (tw_ok a4 (tw_len.getD w0 0)) (
if r6 = ((tw_byt.getD w0 []).getD (Int32.toNatClampNeg a4) 0) then (tw_lt (a4 + (1 : Int32)) (fun (v7 : Int32) =>
k5 v7))
else (tw_ck (tw_01 (0 : Int32)) (some (0 : Int32))))))) n v3))
else (j2 ())))
theorem tw_y_X6_isWord : tw_My yX6_isWord cX6_isWord 3 (some .boolean) 1 := ⟨List.mem_of_getElem? tw_w848, List.mem_of_getElem? tw_w47, by decide +kernel, by decide +kernel, by decide +kernel⟩
theorem tw_v_X6_isWord : tw_Mv yX6_isWord "TreasureWalk$Reader" := ⟨List.mem_of_getElem? tw_w847, List.mem_of_getElem? tw_w11, rfl⟩
set_option maxRecDepth 100000 in
set_option maxHeartbeats 4000000 in
theorem tw_m_X6_isWord {l : Launch} {B : Nat} {D : tw_G} {C : Nat → ClassId} {S : Nat → Nat} {n : Nat} {w0 : Nat} {σ : tw_Sg} (hw0 : w0 < 33) {r : Int32} (h : tw_P_X6_isWord n w0 σ = some r) : tw_Met l B D C S yX6_isWord cX6_isWord 3 (some .boolean) ({ frames := 6, cells := 0, slots := 0, locals := 120 } : Room) [.ref (B + 400), .ref (S w0)] σ (some (.int r)) σ := by
  refine tw_metOfP (tw_P_X6_isWord n w0 σ) r h (fun r => (some (.int r), σ)) (by decide +kernel) (Nat.le_of_ble_eq_true rfl) ⟨rfl, rfl⟩ ?_
  intro z el eB eD eC eS hfr hlo hcs X hret hQ
  subst el eB eD eC eS
  have X : tw_X z cX6_isWord "TreasureWalk$Reader" 3 := X
  show tw_Rf z r _ σ 0 [(0, .ref (tw_zB z + 400)), (1, .ref (tw_zS z w0))] []
  unfold tw_P_X6_isWord
  refine r_aload_n X dX6_isWord_0 rfl 0 rfl ?_
  refine tw_g6_6 (k := 400) (v := .int (σ 400 6)) X dX6_isWord_1 _ tw_w376 tw_kc400 rfl ?_
  refine r_iconst X dX6_isWord_4 (v := (1 : Int32)) (by decide) ?_
  refine r_jn (α := Unit) (σJ := fun a1 => σ) (pcJ := 24) (LJ := fun a1 => []) (stJ := fun a1 => []) (ok := fun a1 => True) (fun a1 hoka1 => ?_) (fun j2 hj2 => ?_)
  ·
    refine r_iconst X dX6_isWord_24 (v := (0 : Int32)) (by decide) ?_
    exact r_zret X dX6_isWord_25 hret hQ rfl
  refine r_icmp_ne X dX6_isWord_5 (tgt := 24) (by decide) ?_ ?_
  ·
    exact tw_Rf.sub [] rfl (hj2 () trivial)
  ·
    refine r_aload_n X dX6_isWord_8 rfl 0 rfl ?_
    refine tw_g6_5 (k := 400) (v := .int (σ 400 5)) X dX6_isWord_9 _ tw_w375 tw_kc400 rfl ?_
    refine r_aload_n X dX6_isWord_12 rfl 0 rfl ?_
    refine tw_g6_4 (k := 400) (v := .int (σ 400 4)) X dX6_isWord_13 _ tw_w374 tw_kc400 rfl ?_
    refine r_isub X dX6_isWord_16 ?_
    refine r_aload_n X dX6_isWord_17 rfl 1 rfl ?_
    refine tw_strlen X dX6_isWord_18 _ tw_w849 hw0 (tw_le hfr rfl) (tw_le hlo rfl) hcs (Nat.le_of_ble_eq_true rfl) ?_
    refine r_icmp_eq X dX6_isWord_21 (tgt := 26) (by decide) ?_ ?_
    ·
      refine r_iconst X dX6_isWord_26 (v := (0 : Int32)) (by decide) ?_
      refine r_istore_n X dX6_isWord_27 rfl (by decide) (LL := fun v3 => [(2, .int v3), (0, .ref (tw_zB z + 400)), (1, .ref (tw_zS z w0))]) (fun _ => rfl) (fun v3 => ?_)
      refine r_lp (α := Int32) (σJ := fun a4 => σ) (pcJ := 28) (LJ := fun a4 => [(2, .int a4), (0, .ref (tw_zB z + 400)), (1, .ref (tw_zS z w0))]) (stJ := fun a4 => []) (fun k5 hk5 a4 => ?_) n v3
      refine r_iload_n X dX6_isWord_28 rfl 0 rfl ?_
      refine r_aload_n X dX6_isWord_29 rfl 2 rfl ?_
      refine tw_strlen X dX6_isWord_30 _ tw_w849 hw0 (tw_le hfr rfl) (tw_le hlo rfl) hcs (Nat.le_of_ble_eq_true rfl) ?_
      refine r_icmp_ge X dX6_isWord_33 (tgt := 65) (by decide) ?_ ?_
      ·
        refine r_iconst X dX6_isWord_65 (v := (1 : Int32)) (by decide) ?_
        exact r_zret X dX6_isWord_66 hret hQ rfl
      ·
        refine r_aload_n X dX6_isWord_36 rfl 1 rfl ?_
        refine tw_g6_0 (k := 400) (v := .ref (tw_zB z + 401)) X dX6_isWord_37 _ tw_w368 tw_kc400 rfl ?_
        refine r_aload_n X dX6_isWord_40 rfl 1 rfl ?_
        refine tw_g6_4 (k := 400) (v := .int (σ 400 4)) X dX6_isWord_41 _ tw_w374 tw_kc400 rfl ?_
        refine r_iload_n X dX6_isWord_44 rfl 0 rfl ?_
        refine r_iadd X dX6_isWord_45 ?_
        refine r_bd (fun r6 hr6 => ?_)
        refine tw_c_X7_get X dX6_isWord_46 _ tw_w832 tw_kc401 hr6 (tw_le hfr rfl) (tw_le hlo rfl) hcs (Nat.le_of_ble_eq_true rfl) trivial ?_
        refine r_aload_n X dX6_isWord_49 rfl 2 rfl ?_
        refine r_iload_n X dX6_isWord_50 rfl 0 rfl ?_
        refine tw_strchar X dX6_isWord_51 _ tw_w859 hw0 (tw_le hfr rfl) (tw_le hlo rfl) hcs (Nat.le_of_ble_eq_true rfl) ?_
        refine r_icmp_eq X dX6_isWord_54 (tgt := 59) (by decide) ?_ ?_
        ·
          refine r_iinc X dX6_isWord_59 0 rfl (v := (1 : Int32)) (by decide) (by decide) (LL := fun v7 => [(2, .int v7), (0, .ref (tw_zB z + 400)), (1, .ref (tw_zS z w0))]) (fun _ => rfl) (fun v7 => ?_)
          refine r_goto X dX6_isWord_62 (tgt := 28) (by decide) ?_
          exact hk5 v7
        ·
          refine r_iconst X dX6_isWord_57 (v := (0 : Int32)) (by decide) ?_
          exact r_zret X dX6_isWord_58 hret hQ rfl
    ·
      exact tw_Rf.sub [] rfl (hj2 () trivial)
theorem tw_c_X6_isWord {ρ : Type} {z : tw_Z} {cc : ByteArray} {own : String} {nL pc : Nat} {σ : tw_Sg} {L : List (Nat × Value)} {st : List Value} {ix : Nat} {n : Nat} {w0 : Nat} (X : tw_X z cc own nL) (d : decode cc pc = .ok (.invokevirtual ix, 3)) (i : Nat) (hi : lw_tbl[i]? = some (.methodLink own ix yX6_isWord)) (hw0 : w0 < 33) {res : ρ} {E : Option ρ} {r : Int32} (h : tw_P_X6_isWord n w0 σ = some r) (h1 : 7 ≤ (tw_zR z).frames) (h2 : 142 ≤ (tw_zR z).locals) (hcs : tw_zcells z ≤ (tw_zR z).cells ∧ tw_zslots z ≤ (tw_zR z).slots) (hst : (st.map fun v => v.category).sum ≤ 8) (_ : True) (kk : tw_Rf z res E σ (pc + 3) L (.int r :: st)) : tw_Rf z res E σ pc L (.ref (tw_zS z w0) :: .ref (tw_zB z + 400) :: st) := r_callV (As := [.ref (tw_zS z w0)]) X d (tw_m_X6_isWord hw0 h) tw_y_X6_isWord tw_v_X6_isWord i hi rfl (tw_kd_lt tw_kc400 (by decide)) (tw_E6 tw_kc400) rfl ⟨rfl, rfl, h1, h2⟩ hcs hst rfl kk
def tw_P_X6_fail (x0 : Int32) (x1 : Int32) (σ : tw_Sg) : Option (tw_Sg) :=
tw_jn (fun (a1 : tw_Sg) =>
some a1) (fun (j2 : (tw_Sg) → Option (tw_Sg)) =>
if ¬ (σ 400 7) = 0 then (j2 σ)
else (tw_lt (tw_up σ 400 7 x0) (fun (σ3 : tw_Sg) =>
tw_lt (tw_up σ3 400 8 x1) (fun (σ4 : tw_Sg) =>
j2 σ4))))
theorem tw_y_X6_fail : tw_My yX6_fail cX6_fail 3 none 2 := ⟨List.mem_of_getElem? tw_w900, List.mem_of_getElem? tw_w47, by decide +kernel, by decide +kernel, by decide +kernel⟩
theorem tw_v_X6_fail : tw_Mv yX6_fail "TreasureWalk$Reader" := ⟨List.mem_of_getElem? tw_w899, List.mem_of_getElem? tw_w12, rfl⟩
set_option maxRecDepth 100000 in
set_option maxHeartbeats 4000000 in
theorem tw_m_X6_fail {l : Launch} {B : Nat} {D : tw_G} {C : Nat → ClassId} {S : Nat → Nat} {x0 : Int32} {x1 : Int32} {σ : tw_Sg}  {r : tw_Sg} (h : tw_P_X6_fail x0 x1 σ = some r) : tw_Met l B D C S yX6_fail cX6_fail 3 none ({ frames := 0, cells := 0, slots := 0, locals := 0 } : Room) [.ref (B + 400), .int x0, .int x1] σ (none) r := by
  refine tw_metOfP (tw_P_X6_fail x0 x1 σ) r h (fun r => (none, r)) (by decide +kernel) (Nat.le_of_ble_eq_true rfl) ⟨rfl, rfl⟩ ?_
  intro z el eB eD eC eS hfr hlo hcs X hret hQ
  subst el eB eD eC eS
  have X : tw_X z cX6_fail "TreasureWalk$Reader" 3 := X
  show tw_Rf z r _ σ 0 [(0, .ref (tw_zB z + 400)), (1, .int x0), (2, .int x1)] []
  unfold tw_P_X6_fail
  refine r_aload_n X dX6_fail_0 rfl 0 rfl ?_
  refine tw_g6_7 (k := 400) (v := .int (σ 400 7)) X dX6_fail_1 _ tw_w377 tw_kc400 rfl ?_
  refine r_jn (α := tw_Sg) (σJ := fun a1 => a1) (pcJ := 17) (LJ := fun a1 => []) (stJ := fun a1 => []) (ok := fun a1 => True) (fun a1 hoka1 => ?_) (fun j2 hj2 => ?_)
  ·
    exact r_vret X dX6_fail_17 hret hQ rfl
  refine r_if_ne X dX6_fail_4 (tgt := 17) (by decide) ?_ ?_
  ·
    exact tw_Rf.sub [] rfl (hj2 σ trivial)
  ·
    refine r_aload_n X dX6_fail_7 rfl 0 rfl ?_
    refine r_iload_n X dX6_fail_8 rfl 1 rfl ?_
    refine tw_s6_7 (k := 400) X dX6_fail_9 _ tw_w377 tw_kc400 (fun σ3 => ?_)
    refine r_aload_n X dX6_fail_12 rfl 0 rfl ?_
    refine r_iload_n X dX6_fail_13 rfl 2 rfl ?_
    refine tw_s6_8 (k := 400) X dX6_fail_14 _ tw_w378 tw_kc400 (fun σ4 => ?_)
    exact tw_Rf.sub [] rfl (hj2 σ4 trivial)
theorem tw_c_X6_fail {ρ : Type} {z : tw_Z} {cc : ByteArray} {own : String} {nL pc : Nat} {σ : tw_Sg} {L : List (Nat × Value)} {st : List Value} {ix : Nat} {x0 : Int32} {x1 : Int32} (X : tw_X z cc own nL) (d : decode cc pc = .ok (.invokevirtual ix, 3)) (i : Nat) (hi : lw_tbl[i]? = some (.methodLink own ix yX6_fail))  {res : ρ} {E : Option ρ} {r : tw_Sg} (h : tw_P_X6_fail x0 x1 σ = some r) (h1 : 1 ≤ (tw_zR z).frames) (h2 : 22 ≤ (tw_zR z).locals) (hcs : tw_zcells z ≤ (tw_zR z).cells ∧ tw_zslots z ≤ (tw_zR z).slots) (hst : (st.map fun v => v.category).sum ≤ 8) (_ : True) (kk : tw_Rf z res E r (pc + 3) L (st)) : tw_Rf z res E σ pc L (.int x1 :: .int x0 :: .ref (tw_zB z + 400) :: st) := r_callV (As := [.int x0, .int x1]) X d (tw_m_X6_fail  h) tw_y_X6_fail tw_v_X6_fail i hi rfl (tw_kd_lt tw_kc400 (by decide)) (tw_E6 tw_kc400) rfl ⟨rfl, rfl, h1, h2⟩ hcs hst rfl kk
def tw_P_X6_takeWord (n : Nat) (w0 : Nat) (σ : tw_Sg) : Option (tw_Sg) :=
tw_bd (tw_P_X6_isWord n w0 σ) (fun r1 =>
tw_jn (fun (a2 : tw_Sg) =>
tw_bd (tw_P_X6_advance n a2) (fun r4 =>
some r4)) (fun (j3 : (tw_Sg) → Option (tw_Sg)) =>
if ¬ r1 = 0 then (j3 σ)
else (tw_bd (tw_P_X6_fail (-2 : Int32) (σ 400 4) σ) (fun r5 =>
j3 r5))))
theorem tw_y_X6_takeWord : tw_My yX6_takeWord cX6_takeWord 2 none 1 := ⟨List.mem_of_getElem? tw_w844, List.mem_of_getElem? tw_w47, by decide +kernel, by decide +kernel, by decide +kernel⟩
theorem tw_v_X6_takeWord : tw_Mv yX6_takeWord "TreasureWalk$Reader" := ⟨List.mem_of_getElem? tw_w843, List.mem_of_getElem? tw_w10, rfl⟩
set_option maxRecDepth 100000 in
set_option maxHeartbeats 4000000 in
theorem tw_m_X6_takeWord {l : Launch} {B : Nat} {D : tw_G} {C : Nat → ClassId} {S : Nat → Nat} {n : Nat} {w0 : Nat} {σ : tw_Sg} (hw0 : w0 < 33) {r : tw_Sg} (h : tw_P_X6_takeWord n w0 σ = some r) : tw_Met l B D C S yX6_takeWord cX6_takeWord 2 none ({ frames := 7, cells := 0, slots := 0, locals := 142 } : Room) [.ref (B + 400), .ref (S w0)] σ (none) r := by
  refine tw_metOfP (tw_P_X6_takeWord n w0 σ) r h (fun r => (none, r)) (by decide +kernel) (Nat.le_of_ble_eq_true rfl) ⟨rfl, rfl⟩ ?_
  intro z el eB eD eC eS hfr hlo hcs X hret hQ
  subst el eB eD eC eS
  have X : tw_X z cX6_takeWord "TreasureWalk$Reader" 2 := X
  show tw_Rf z r _ σ 0 [(0, .ref (tw_zB z + 400)), (1, .ref (tw_zS z w0))] []
  unfold tw_P_X6_takeWord
  refine r_aload_n X dX6_takeWord_0 rfl 0 rfl ?_
  refine r_aload_n X dX6_takeWord_1 rfl 1 rfl ?_
  refine r_bd (fun r1 hr1 => ?_)
  refine tw_c_X6_isWord X dX6_takeWord_2 _ tw_w845 hw0 hr1 (tw_le hfr rfl) (tw_le hlo rfl) hcs (Nat.le_of_ble_eq_true rfl) trivial ?_
  refine r_jn (α := tw_Sg) (σJ := fun a2 => a2) (pcJ := 18) (LJ := fun a2 => [(0, .ref (tw_zB z + 400))]) (stJ := fun a2 => []) (ok := fun a2 => True) (fun a2 hoka2 => ?_) (fun j3 hj3 => ?_)
  ·
    refine r_aload_n X dX6_takeWord_18 rfl 0 rfl ?_
    refine r_bd (fun r4 hr4 => ?_)
    refine tw_c_X6_advance X dX6_takeWord_19 _ tw_w828  hr4 (tw_le hfr rfl) (tw_le hlo rfl) hcs (Nat.le_of_ble_eq_true rfl) trivial ?_
    exact r_vret X dX6_takeWord_22 hret hQ rfl
  refine r_if_ne X dX6_takeWord_5 (tgt := 18) (by decide) ?_ ?_
  ·
    exact tw_Rf.sub [0] rfl (hj3 σ trivial)
  ·
    refine r_aload_n X dX6_takeWord_8 rfl 0 rfl ?_
    refine r_bipush X dX6_takeWord_9 (v := (-2 : Int32)) (by decide) ?_
    refine r_aload_n X dX6_takeWord_11 rfl 0 rfl ?_
    refine tw_g6_4 (k := 400) (v := .int (σ 400 4)) X dX6_takeWord_12 _ tw_w374 tw_kc400 rfl ?_
    refine r_bd (fun r5 hr5 => ?_)
    refine tw_c_X6_fail X dX6_takeWord_15 _ tw_w897  hr5 (tw_le hfr rfl) (tw_le hlo rfl) hcs (Nat.le_of_ble_eq_true rfl) trivial ?_
    exact tw_Rf.sub [0] rfl (hj3 r5 trivial)
theorem tw_c_X6_takeWord {ρ : Type} {z : tw_Z} {cc : ByteArray} {own : String} {nL pc : Nat} {σ : tw_Sg} {L : List (Nat × Value)} {st : List Value} {ix : Nat} {n : Nat} {w0 : Nat} (X : tw_X z cc own nL) (d : decode cc pc = .ok (.invokevirtual ix, 3)) (i : Nat) (hi : lw_tbl[i]? = some (.methodLink own ix yX6_takeWord)) (hw0 : w0 < 33) {res : ρ} {E : Option ρ} {r : tw_Sg} (h : tw_P_X6_takeWord n w0 σ = some r) (h1 : 8 ≤ (tw_zR z).frames) (h2 : 163 ≤ (tw_zR z).locals) (hcs : tw_zcells z ≤ (tw_zR z).cells ∧ tw_zslots z ≤ (tw_zR z).slots) (hst : (st.map fun v => v.category).sum ≤ 8) (_ : True) (kk : tw_Rf z res E r (pc + 3) L (st)) : tw_Rf z res E σ pc L (.ref (tw_zS z w0) :: .ref (tw_zB z + 400) :: st) := r_callV (As := [.ref (tw_zS z w0)]) X d (tw_m_X6_takeWord hw0 h) tw_y_X6_takeWord tw_v_X6_takeWord i hi rfl (tw_kd_lt tw_kc400 (by decide)) (tw_E6 tw_kc400) rfl ⟨rfl, rfl, h1, h2⟩ hcs hst rfl kk
def tw_P_X6_takeNumber (n : Nat) (x0 : Int32) (x1 : Int32) (σ : tw_Sg) : Option (Int32 × tw_Sg) :=
if (σ 400 6) = (2 : Int32) then (tw_lt (0 : Int32) (fun (v1 : Int32) =>
tw_lt (σ 400 4) (fun (v2 : Int32) =>
tw_lp (fun (k4 : (Int32 × Int32) → Option (Int32 × tw_Sg)) (a3 : Int32 × Int32) =>
if (σ 400 5) ≤ a3.2 then (tw_jn (fun (a5 : Unit) =>
tw_bd (tw_P_X6_fail (-3 : Int32) (σ 400 4) σ) (fun r7 =>
some (x0, r7))) (fun (j6 : (Unit) → Option (Int32 × tw_Sg)) =>
if a3.1 < x0 then (j6 ())
else (if a3.1 ≤ x1 then (tw_bd (tw_P_X6_advance n σ) (fun r8 =>
some (a3.1, r8)))
else (j6 ()))))
else (tw_bd (tw_P_X7_get 401 a3.2 σ) (fun r9 =>
tw_lt (if ((((10 : Int32) * a3.1) + r9) - (48 : Int32)) < (1000 : Int32) then ((((10 : Int32) * a3.1) + r9) - (48 : Int32)) else (1000 : Int32)) (fun (v10 : Int32) =>
tw_lt (a3.2 + (1 : Int32)) (fun (v11 : Int32) =>
k4 (v10, v11)))))) n (v1, v2))))
else (tw_bd (tw_P_X6_fail (-2 : Int32) (σ 400 4) σ) (fun r12 =>
some (x0, r12)))
theorem tw_y_X6_takeNumber : tw_My yX6_takeNumber cX6_takeNumber 5 (some .int) 2 := ⟨List.mem_of_getElem? tw_w904, List.mem_of_getElem? tw_w47, by decide +kernel, by decide +kernel, by decide +kernel⟩
theorem tw_v_X6_takeNumber : tw_Mv yX6_takeNumber "TreasureWalk$Reader" := ⟨List.mem_of_getElem? tw_w903, List.mem_of_getElem? tw_w13, rfl⟩
set_option maxRecDepth 100000 in
set_option maxHeartbeats 4000000 in
theorem tw_m_X6_takeNumber {l : Launch} {B : Nat} {D : tw_G} {C : Nat → ClassId} {S : Nat → Nat} {n : Nat} {x0 : Int32} {x1 : Int32} {σ : tw_Sg}  {r : Int32 × tw_Sg} (h : tw_P_X6_takeNumber n x0 x1 σ = some r) : tw_Met l B D C S yX6_takeNumber cX6_takeNumber 5 (some .int) ({ frames := 2, cells := 0, slots := 0, locals := 41 } : Room) [.ref (B + 400), .int x0, .int x1] σ (some (.int r.1)) r.2 := by
  refine tw_metOfP (tw_P_X6_takeNumber n x0 x1 σ) r h (fun r => (some (.int r.1), r.2)) (by decide +kernel) (Nat.le_of_ble_eq_true rfl) ⟨rfl, rfl⟩ ?_
  intro z el eB eD eC eS hfr hlo hcs X hret hQ
  subst el eB eD eC eS
  have X : tw_X z cX6_takeNumber "TreasureWalk$Reader" 5 := X
  show tw_Rf z r _ σ 0 [(0, .ref (tw_zB z + 400)), (1, .int x0), (2, .int x1)] []
  unfold tw_P_X6_takeNumber
  refine r_aload_n X dX6_takeNumber_0 rfl 0 rfl ?_
  refine tw_g6_6 (k := 400) (v := .int (σ 400 6)) X dX6_takeNumber_1 _ tw_w376 tw_kc400 rfl ?_
  refine r_iconst X dX6_takeNumber_4 (v := (2 : Int32)) (by decide) ?_
  refine r_icmp_eq X dX6_takeNumber_5 (tgt := 20) (by decide) ?_ ?_
  ·
    refine r_iconst X dX6_takeNumber_20 (v := (0 : Int32)) (by decide) ?_
    refine r_istore_n X dX6_takeNumber_21 rfl (by decide) (LL := fun v1 => [(3, .int v1), (0, .ref (tw_zB z + 400)), (1, .int x0), (2, .int x1)]) (fun _ => rfl) (fun v1 => ?_)
    refine r_aload_n X dX6_takeNumber_22 rfl 1 rfl ?_
    refine tw_g6_4 (k := 400) (v := .int (σ 400 4)) X dX6_takeNumber_23 _ tw_w374 tw_kc400 rfl ?_
    refine r_istore X dX6_takeNumber_26 (by decide) (LL := fun v2 => [(4, .int v2), (3, .int v1), (0, .ref (tw_zB z + 400)), (1, .int x0), (2, .int x1)]) (fun _ => rfl) (fun v2 => ?_)
    refine r_lp (α := Int32 × Int32) (σJ := fun a3 => σ) (pcJ := 28) (LJ := fun a3 => [(4, .int a3.2), (3, .int a3.1), (0, .ref (tw_zB z + 400)), (1, .int x0), (2, .int x1)]) (stJ := fun a3 => []) (fun k4 hk4 a3 => ?_) n (v1, v2)
    refine r_iload X dX6_takeNumber_28 0 rfl ?_
    refine r_aload_n X dX6_takeNumber_30 rfl 2 rfl ?_
    refine tw_g6_5 (k := 400) (v := .int (σ 400 5)) X dX6_takeNumber_31 _ tw_w375 tw_kc400 rfl ?_
    refine r_icmp_ge X dX6_takeNumber_34 (tgt := 67) (by decide) ?_ ?_
    ·
      refine r_iload_n X dX6_takeNumber_67 rfl 1 rfl ?_
      refine r_iload_n X dX6_takeNumber_68 rfl 3 rfl ?_
      refine r_jn (α := Unit) (σJ := fun a5 => σ) (pcJ := 77) (LJ := fun a5 => [(0, .ref (tw_zB z + 400)), (1, .int x0)]) (stJ := fun a5 => []) (ok := fun a5 => True) (fun a5 hoka5 => ?_) (fun j6 hj6 => ?_)
      ·
        refine r_aload_n X dX6_takeNumber_77 rfl 0 rfl ?_
        refine r_bipush X dX6_takeNumber_78 (v := (-3 : Int32)) (by decide) ?_
        refine r_aload_n X dX6_takeNumber_80 rfl 0 rfl ?_
        refine tw_g6_4 (k := 400) (v := .int (σ 400 4)) X dX6_takeNumber_81 _ tw_w374 tw_kc400 rfl ?_
        refine r_bd (fun r7 hr7 => ?_)
        refine tw_c_X6_fail X dX6_takeNumber_84 _ tw_w897  hr7 (tw_le hfr rfl) (tw_le hlo rfl) hcs (Nat.le_of_ble_eq_true rfl) trivial ?_
        refine r_iload_n X dX6_takeNumber_87 rfl 1 rfl ?_
        exact r_iret X dX6_takeNumber_88 hret hQ rfl
      refine r_icmp_lt X dX6_takeNumber_69 (tgt := 77) (by decide) ?_ ?_
      ·
        exact tw_Rf.sub [2, 3] rfl (hj6 () trivial)
      ·
        refine r_iload_n X dX6_takeNumber_72 rfl 1 rfl ?_
        refine r_iload_n X dX6_takeNumber_73 rfl 4 rfl ?_
        refine r_icmp_le X dX6_takeNumber_74 (tgt := 89) (by decide) ?_ ?_
        ·
          refine r_aload_n X dX6_takeNumber_89 rfl 2 rfl ?_
          refine r_bd (fun r8 hr8 => ?_)
          refine tw_c_X6_advance X dX6_takeNumber_90 _ tw_w828  hr8 (tw_le hfr rfl) (tw_le hlo rfl) hcs (Nat.le_of_ble_eq_true rfl) trivial ?_
          refine r_iload_n X dX6_takeNumber_93 rfl 1 rfl ?_
          exact r_iret X dX6_takeNumber_94 hret hQ rfl
        ·
          exact tw_Rf.sub [2, 3] rfl (hj6 () trivial)
    ·
      refine r_sipush X dX6_takeNumber_37 (v := (1000 : Int32)) (by decide) ?_
      refine r_bipush X dX6_takeNumber_40 (v := (10 : Int32)) (by decide) ?_
      refine r_iload_n X dX6_takeNumber_42 rfl 1 rfl ?_
      refine r_imul X dX6_takeNumber_43 ?_
      refine r_aload_n X dX6_takeNumber_44 rfl 2 rfl ?_
      refine tw_g6_0 (k := 400) (v := .ref (tw_zB z + 401)) X dX6_takeNumber_45 _ tw_w368 tw_kc400 rfl ?_
      refine r_iload X dX6_takeNumber_48 0 rfl ?_
      refine r_bd (fun r9 hr9 => ?_)
      refine tw_c_X7_get X dX6_takeNumber_50 _ tw_w832 tw_kc401 hr9 (tw_le hfr rfl) (tw_le hlo rfl) hcs (Nat.le_of_ble_eq_true rfl) trivial ?_
      refine r_iadd X dX6_takeNumber_53 ?_
      refine r_bipush X dX6_takeNumber_54 (v := (48 : Int32)) (by decide) ?_
      refine r_isub X dX6_takeNumber_56 ?_
      refine tw_mmin X dX6_takeNumber_57 _ tw_w905 (tw_le hfr rfl) (tw_le hlo rfl) hcs ?_
      refine r_istore_n X dX6_takeNumber_60 rfl (by decide) (LL := fun v10 => [(3, .int v10), (4, .int a3.2), (0, .ref (tw_zB z + 400)), (1, .int x0), (2, .int x1)]) (fun _ => rfl) (fun v10 => ?_)
      refine r_iinc X dX6_takeNumber_61 1 rfl (v := (1 : Int32)) (by decide) (by decide) (LL := fun v11 => [(4, .int v11), (3, .int v10), (0, .ref (tw_zB z + 400)), (1, .int x0), (2, .int x1)]) (fun _ => rfl) (fun v11 => ?_)
      refine r_goto X dX6_takeNumber_64 (tgt := 28) (by decide) ?_
      exact hk4 (v10, v11)
  ·
    refine r_aload_n X dX6_takeNumber_8 rfl 0 rfl ?_
    refine r_bipush X dX6_takeNumber_9 (v := (-2 : Int32)) (by decide) ?_
    refine r_aload_n X dX6_takeNumber_11 rfl 0 rfl ?_
    refine tw_g6_4 (k := 400) (v := .int (σ 400 4)) X dX6_takeNumber_12 _ tw_w374 tw_kc400 rfl ?_
    refine r_bd (fun r12 hr12 => ?_)
    refine tw_c_X6_fail X dX6_takeNumber_15 _ tw_w897  hr12 (tw_le hfr rfl) (tw_le hlo rfl) hcs (Nat.le_of_ble_eq_true rfl) trivial ?_
    refine r_iload_n X dX6_takeNumber_18 rfl 1 rfl ?_
    exact r_iret X dX6_takeNumber_19 hret hQ rfl
theorem tw_c_X6_takeNumber {ρ : Type} {z : tw_Z} {cc : ByteArray} {own : String} {nL pc : Nat} {σ : tw_Sg} {L : List (Nat × Value)} {st : List Value} {ix : Nat} {n : Nat} {x0 : Int32} {x1 : Int32} (X : tw_X z cc own nL) (d : decode cc pc = .ok (.invokevirtual ix, 3)) (i : Nat) (hi : lw_tbl[i]? = some (.methodLink own ix yX6_takeNumber))  {res : ρ} {E : Option ρ} {r : Int32 × tw_Sg} (h : tw_P_X6_takeNumber n x0 x1 σ = some r) (h1 : 3 ≤ (tw_zR z).frames) (h2 : 65 ≤ (tw_zR z).locals) (hcs : tw_zcells z ≤ (tw_zR z).cells ∧ tw_zslots z ≤ (tw_zR z).slots) (hst : (st.map fun v => v.category).sum ≤ 8) (_ : True) (kk : tw_Rf z res E r.2 (pc + 3) L (.int r.1 :: st)) : tw_Rf z res E σ pc L (.int x1 :: .int x0 :: .ref (tw_zB z + 400) :: st) := r_callV (As := [.int x0, .int x1]) X d (tw_m_X6_takeNumber  h) tw_y_X6_takeNumber tw_v_X6_takeNumber i hi rfl (tw_kd_lt tw_kc400 (by decide)) (tw_E6 tw_kc400) rfl ⟨rfl, rfl, h1, h2⟩ hcs hst rfl kk
def tw_P_X6_takeSemicolon (n : Nat)  (σ : tw_Sg) : Option (tw_Sg) :=
tw_jn (fun (a1 : tw_Sg) =>
tw_bd (tw_P_X6_advance n a1) (fun r3 =>
some r3)) (fun (j2 : (tw_Sg) → Option (tw_Sg)) =>
tw_jn (fun (a4 : Unit) =>
tw_bd (tw_P_X6_fail (-2 : Int32) (σ 400 4) σ) (fun r6 =>
j2 r6)) (fun (j5 : (Unit) → Option (tw_Sg)) =>
if ¬ (σ 400 6) = (3 : Int32) then (j5 ())
else (tw_bd (tw_P_X7_get 401 (σ 400 4) σ) (fun r7 =>
if r7 = (59 : Int32) then (j2 σ)
else (j5 ())))))
theorem tw_y_X6_takeSemicolon : tw_My yX6_takeSemicolon cX6_takeSemicolon 1 none 0 := ⟨List.mem_of_getElem? tw_w909, List.mem_of_getElem? tw_w47, by decide +kernel, by decide +kernel, by decide +kernel⟩
theorem tw_v_X6_takeSemicolon : tw_Mv yX6_takeSemicolon "TreasureWalk$Reader" := ⟨List.mem_of_getElem? tw_w908, List.mem_of_getElem? tw_w14, rfl⟩
set_option maxRecDepth 100000 in
set_option maxHeartbeats 4000000 in
theorem tw_m_X6_takeSemicolon {l : Launch} {B : Nat} {D : tw_G} {C : Nat → ClassId} {S : Nat → Nat} {n : Nat}  {σ : tw_Sg}  {r : tw_Sg} (h : tw_P_X6_takeSemicolon n σ = some r) : tw_Met l B D C S yX6_takeSemicolon cX6_takeSemicolon 1 none ({ frames := 2, cells := 0, slots := 0, locals := 41 } : Room) [.ref (B + 400)] σ (none) r := by
  refine tw_metOfP (tw_P_X6_takeSemicolon n σ) r h (fun r => (none, r)) (by decide +kernel) (Nat.le_of_ble_eq_true rfl) ⟨rfl, rfl⟩ ?_
  intro z el eB eD eC eS hfr hlo hcs X hret hQ
  subst el eB eD eC eS
  have X : tw_X z cX6_takeSemicolon "TreasureWalk$Reader" 1 := X
  show tw_Rf z r _ σ 0 [(0, .ref (tw_zB z + 400))] []
  unfold tw_P_X6_takeSemicolon
  refine r_aload_n X dX6_takeSemicolon_0 rfl 0 rfl ?_
  refine tw_g6_6 (k := 400) (v := .int (σ 400 6)) X dX6_takeSemicolon_1 _ tw_w376 tw_kc400 rfl ?_
  refine r_iconst X dX6_takeSemicolon_4 (v := (3 : Int32)) (by decide) ?_
  refine r_jn (α := tw_Sg) (σJ := fun a1 => a1) (pcJ := 34) (LJ := fun a1 => [(0, .ref (tw_zB z + 400))]) (stJ := fun a1 => []) (ok := fun a1 => True) (fun a1 hoka1 => ?_) (fun j2 hj2 => ?_)
  ·
    refine r_aload_n X dX6_takeSemicolon_34 rfl 0 rfl ?_
    refine r_bd (fun r3 hr3 => ?_)
    refine tw_c_X6_advance X dX6_takeSemicolon_35 _ tw_w828  hr3 (tw_le hfr rfl) (tw_le hlo rfl) hcs (Nat.le_of_ble_eq_true rfl) trivial ?_
    exact r_vret X dX6_takeSemicolon_38 hret hQ rfl
  refine r_jn (α := Unit) (σJ := fun a4 => σ) (pcJ := 24) (LJ := fun a4 => [(0, .ref (tw_zB z + 400))]) (stJ := fun a4 => []) (ok := fun a4 => True) (fun a4 hoka4 => ?_) (fun j5 hj5 => ?_)
  ·
    refine r_aload_n X dX6_takeSemicolon_24 rfl 0 rfl ?_
    refine r_bipush X dX6_takeSemicolon_25 (v := (-2 : Int32)) (by decide) ?_
    refine r_aload_n X dX6_takeSemicolon_27 rfl 0 rfl ?_
    refine tw_g6_4 (k := 400) (v := .int (σ 400 4)) X dX6_takeSemicolon_28 _ tw_w374 tw_kc400 rfl ?_
    refine r_bd (fun r6 hr6 => ?_)
    refine tw_c_X6_fail X dX6_takeSemicolon_31 _ tw_w897  hr6 (tw_le hfr rfl) (tw_le hlo rfl) hcs (Nat.le_of_ble_eq_true rfl) trivial ?_
    exact hj2 r6 trivial
  refine r_icmp_ne X dX6_takeSemicolon_5 (tgt := 24) (by decide) ?_ ?_
  ·
    exact hj5 () trivial
  ·
    refine r_aload_n X dX6_takeSemicolon_8 rfl 0 rfl ?_
    refine tw_g6_0 (k := 400) (v := .ref (tw_zB z + 401)) X dX6_takeSemicolon_9 _ tw_w368 tw_kc400 rfl ?_
    refine r_aload_n X dX6_takeSemicolon_12 rfl 0 rfl ?_
    refine tw_g6_4 (k := 400) (v := .int (σ 400 4)) X dX6_takeSemicolon_13 _ tw_w374 tw_kc400 rfl ?_
    refine r_bd (fun r7 hr7 => ?_)
    refine tw_c_X7_get X dX6_takeSemicolon_16 _ tw_w832 tw_kc401 hr7 (tw_le hfr rfl) (tw_le hlo rfl) hcs (Nat.le_of_ble_eq_true rfl) trivial ?_
    refine r_bipush X dX6_takeSemicolon_19 (v := (59 : Int32)) (by decide) ?_
    refine r_icmp_eq X dX6_takeSemicolon_21 (tgt := 34) (by decide) ?_ ?_
    ·
      exact hj2 σ trivial
    ·
      exact hj5 () trivial
theorem tw_c_X6_takeSemicolon {ρ : Type} {z : tw_Z} {cc : ByteArray} {own : String} {nL pc : Nat} {σ : tw_Sg} {L : List (Nat × Value)} {st : List Value} {ix : Nat} {n : Nat}  (X : tw_X z cc own nL) (d : decode cc pc = .ok (.invokevirtual ix, 3)) (i : Nat) (hi : lw_tbl[i]? = some (.methodLink own ix yX6_takeSemicolon))  {res : ρ} {E : Option ρ} {r : tw_Sg} (h : tw_P_X6_takeSemicolon n σ = some r) (h1 : 3 ≤ (tw_zR z).frames) (h2 : 61 ≤ (tw_zR z).locals) (hcs : tw_zcells z ≤ (tw_zR z).cells ∧ tw_zslots z ≤ (tw_zR z).slots) (hst : (st.map fun v => v.category).sum ≤ 8) (_ : True) (kk : tw_Rf z res E r (pc + 3) L (st)) : tw_Rf z res E σ pc L (.ref (tw_zB z + 400) :: st) := r_callV (As := []) X d (tw_m_X6_takeSemicolon  h) tw_y_X6_takeSemicolon tw_v_X6_takeSemicolon i hi rfl (tw_kd_lt tw_kc400 (by decide)) (tw_E6 tw_kc400) rfl ⟨rfl, rfl, h1, h2⟩ hcs hst rfl kk
def tw_P_X6_readMap (n : Nat)  (σ : tw_Sg) : Option (tw_Sg) :=
tw_bd (tw_P_X6_takeWord n 5 σ) (fun r1 =>
tw_bd (tw_P_X6_takeNumber n (1 : Int32) (20 : Int32) r1) (fun r2 =>
tw_lt r2.1 (fun (v3 : Int32) =>
tw_bd (tw_P_X6_takeNumber n (1 : Int32) (20 : Int32) r2.2) (fun r4 =>
tw_lt r4.1 (fun (v5 : Int32) =>
tw_bd (tw_P_X6_takeSemicolon n r4.2) (fun r6 =>
tw_bd (tw_P_X2_begin n 403 v3 v5 r6) (fun r7 =>
some r7)))))))
theorem tw_y_X6_readMap : tw_My yX6_readMap cX6_readMap 3 none 0 := ⟨List.mem_of_getElem? tw_w839, List.mem_of_getElem? tw_w47, by decide +kernel, by decide +kernel, by decide +kernel⟩
theorem tw_v_X6_readMap : tw_Mv yX6_readMap "TreasureWalk$Reader" := ⟨List.mem_of_getElem? tw_w838, List.mem_of_getElem? tw_w9, rfl⟩
set_option maxRecDepth 100000 in
set_option maxHeartbeats 4000000 in
theorem tw_m_X6_readMap {l : Launch} {B : Nat} {D : tw_G} {C : Nat → ClassId} {S : Nat → Nat} {n : Nat}  {σ : tw_Sg}  {r : tw_Sg} (h : tw_P_X6_readMap n σ = some r) : tw_Met l B D C S yX6_readMap cX6_readMap 3 none ({ frames := 8, cells := 0, slots := 0, locals := 163 } : Room) [.ref (B + 400)] σ (none) r := by
  refine tw_metOfP (tw_P_X6_readMap n σ) r h (fun r => (none, r)) (by decide +kernel) (Nat.le_of_ble_eq_true rfl) ⟨rfl, rfl⟩ ?_
  intro z el eB eD eC eS hfr hlo hcs X hret hQ
  subst el eB eD eC eS
  have X : tw_X z cX6_readMap "TreasureWalk$Reader" 3 := X
  show tw_Rf z r _ σ 0 [(0, .ref (tw_zB z + 400))] []
  unfold tw_P_X6_readMap
  refine r_aload_n X dX6_readMap_0 rfl 0 rfl ?_
  refine r_ldcS X dX6_readMap_1 (j := 5) tw_l_R_103 ?_
  refine r_bd (fun r1 hr1 => ?_)
  refine tw_c_X6_takeWord X dX6_readMap_3 _ tw_w841 (by decide) hr1 (tw_le hfr rfl) (tw_le hlo rfl) hcs (Nat.le_of_ble_eq_true rfl) trivial ?_
  refine r_aload_n X dX6_readMap_6 rfl 0 rfl ?_
  refine r_iconst X dX6_readMap_7 (v := (1 : Int32)) (by decide) ?_
  refine r_bipush X dX6_readMap_8 (v := (20 : Int32)) (by decide) ?_
  refine r_bd (fun r2 hr2 => ?_)
  refine tw_c_X6_takeNumber X dX6_readMap_10 _ tw_w901  hr2 (tw_le hfr rfl) (tw_le hlo rfl) hcs (Nat.le_of_ble_eq_true rfl) trivial ?_
  refine r_istore_n X dX6_readMap_13 rfl (by decide) (LL := fun v3 => [(1, .int v3), (0, .ref (tw_zB z + 400))]) (fun _ => rfl) (fun v3 => ?_)
  refine r_aload_n X dX6_readMap_14 rfl 1 rfl ?_
  refine r_iconst X dX6_readMap_15 (v := (1 : Int32)) (by decide) ?_
  refine r_bipush X dX6_readMap_16 (v := (20 : Int32)) (by decide) ?_
  refine r_bd (fun r4 hr4 => ?_)
  refine tw_c_X6_takeNumber X dX6_readMap_18 _ tw_w901  hr4 (tw_le hfr rfl) (tw_le hlo rfl) hcs (Nat.le_of_ble_eq_true rfl) trivial ?_
  refine r_istore_n X dX6_readMap_21 rfl (by decide) (LL := fun v5 => [(2, .int v5), (1, .int v3), (0, .ref (tw_zB z + 400))]) (fun _ => rfl) (fun v5 => ?_)
  refine r_aload_n X dX6_readMap_22 rfl 2 rfl ?_
  refine r_bd (fun r6 hr6 => ?_)
  refine tw_c_X6_takeSemicolon X dX6_readMap_23 _ tw_w906  hr6 (tw_le hfr rfl) (tw_le hlo rfl) hcs (Nat.le_of_ble_eq_true rfl) trivial ?_
  refine r_aload_n X dX6_readMap_26 rfl 2 rfl ?_
  refine tw_g6_2 (k := 400) (v := .ref (tw_zB z + 403)) X dX6_readMap_27 _ tw_w371 tw_kc400 rfl ?_
  refine r_iload_n X dX6_readMap_30 rfl 1 rfl ?_
  refine r_iload_n X dX6_readMap_31 rfl 0 rfl ?_
  refine r_bd (fun r7 hr7 => ?_)
  refine tw_c_X2_begin X dX6_readMap_32 _ tw_w910 tw_kc403 hr7 (tw_le hfr rfl) (tw_le hlo rfl) hcs (Nat.le_of_ble_eq_true rfl) trivial ?_
  exact r_vret X dX6_readMap_35 hret hQ rfl
theorem tw_c_X6_readMap {ρ : Type} {z : tw_Z} {cc : ByteArray} {own : String} {nL pc : Nat} {σ : tw_Sg} {L : List (Nat × Value)} {st : List Value} {ix : Nat} {n : Nat}  (X : tw_X z cc own nL) (d : decode cc pc = .ok (.invokevirtual ix, 3)) (i : Nat) (hi : lw_tbl[i]? = some (.methodLink own ix yX6_readMap))  {res : ρ} {E : Option ρ} {r : tw_Sg} (h : tw_P_X6_readMap n σ = some r) (h1 : 9 ≤ (tw_zR z).frames) (h2 : 185 ≤ (tw_zR z).locals) (hcs : tw_zcells z ≤ (tw_zR z).cells ∧ tw_zslots z ≤ (tw_zR z).slots) (hst : (st.map fun v => v.category).sum ≤ 8) (_ : True) (kk : tw_Rf z res E r (pc + 3) L (st)) : tw_Rf z res E σ pc L (.ref (tw_zB z + 400) :: st) := r_callV (As := []) X d (tw_m_X6_readMap  h) tw_y_X6_readMap tw_v_X6_readMap i hi rfl (tw_kd_lt tw_kc400 (by decide)) (tw_E6 tw_kc400) rfl ⟨rfl, rfl, h1, h2⟩ hcs hst rfl kk
def tw_P_X6_readArea (n : Nat)  (σ : tw_Sg) : Option (tw_Sg) :=
tw_bd (tw_P_X6_takeNumber n (0 : Int32) ((σ 403 0) - (1 : Int32)) σ) (fun r1 =>
tw_lt r1.1 (fun (v2 : Int32) =>
tw_bd (tw_P_X6_takeNumber n (0 : Int32) ((r1.2 403 1) - (1 : Int32)) r1.2) (fun r3 =>
tw_lt r3.1 (fun (v4 : Int32) =>
tw_bd (tw_P_X6_takeNumber n v2 ((r3.2 403 0) - (1 : Int32)) r3.2) (fun r5 =>
tw_lt r5.1 (fun (v6 : Int32) =>
tw_bd (tw_P_X6_takeNumber n v4 ((r5.2 403 1) - (1 : Int32)) r5.2) (fun r7 =>
tw_lt r7.1 (fun (v8 : Int32) =>
tw_bd (tw_P_X11_spotAt v2 v4 r7.2) (fun r9 =>
tw_lt (tw_up r7.2 400 9 r9) (fun (σ10 : tw_Sg) =>
tw_bd (tw_P_X11_spotAt v6 v8 σ10) (fun r11 =>
tw_lt (tw_up σ10 400 10 r11) (fun (σ12 : tw_Sg) =>
some σ12))))))))))))
theorem tw_y_X6_readArea : tw_My yX6_readArea cX6_readArea 5 none 0 := ⟨List.mem_of_getElem? tw_w919, List.mem_of_getElem? tw_w47, by decide +kernel, by decide +kernel, by decide +kernel⟩
theorem tw_v_X6_readArea : tw_Mv yX6_readArea "TreasureWalk$Reader" := ⟨List.mem_of_getElem? tw_w918, List.mem_of_getElem? tw_w16, rfl⟩
set_option maxRecDepth 100000 in
set_option maxHeartbeats 4000000 in
theorem tw_m_X6_readArea {l : Launch} {B : Nat} {D : tw_G} {C : Nat → ClassId} {S : Nat → Nat} {n : Nat}  {σ : tw_Sg}  {r : tw_Sg} (h : tw_P_X6_readArea n σ = some r) : tw_Met l B D C S yX6_readArea cX6_readArea 5 none ({ frames := 3, cells := 0, slots := 0, locals := 65 } : Room) [.ref (B + 400)] σ (none) r := by
  refine tw_metOfP (tw_P_X6_readArea n σ) r h (fun r => (none, r)) (by decide +kernel) (Nat.le_of_ble_eq_true rfl) ⟨rfl, rfl⟩ ?_
  intro z el eB eD eC eS hfr hlo hcs X hret hQ
  subst el eB eD eC eS
  have X : tw_X z cX6_readArea "TreasureWalk$Reader" 5 := X
  show tw_Rf z r _ σ 0 [(0, .ref (tw_zB z + 400))] []
  unfold tw_P_X6_readArea
  refine r_aload_n X dX6_readArea_0 rfl 0 rfl ?_
  refine r_iconst X dX6_readArea_1 (v := (0 : Int32)) (by decide) ?_
  refine r_aload_n X dX6_readArea_2 rfl 0 rfl ?_
  refine tw_g6_2 (k := 400) (v := .ref (tw_zB z + 403)) X dX6_readArea_3 _ tw_w371 tw_kc400 rfl ?_
  refine tw_g2_0N (k := 403) (v := .int (σ 403 0)) X dX6_readArea_6 _ tw_w166 tw_kc403 rfl ?_
  refine r_iconst X dX6_readArea_9 (v := (1 : Int32)) (by decide) ?_
  refine r_isub X dX6_readArea_10 ?_
  refine r_bd (fun r1 hr1 => ?_)
  refine tw_c_X6_takeNumber X dX6_readArea_11 _ tw_w901  hr1 (tw_le hfr rfl) (tw_le hlo rfl) hcs (Nat.le_of_ble_eq_true rfl) trivial ?_
  refine r_istore_n X dX6_readArea_14 rfl (by decide) (LL := fun v2 => [(1, .int v2), (0, .ref (tw_zB z + 400))]) (fun _ => rfl) (fun v2 => ?_)
  refine r_aload_n X dX6_readArea_15 rfl 1 rfl ?_
  refine r_iconst X dX6_readArea_16 (v := (0 : Int32)) (by decide) ?_
  refine r_aload_n X dX6_readArea_17 rfl 1 rfl ?_
  refine tw_g6_2 (k := 400) (v := .ref (tw_zB z + 403)) X dX6_readArea_18 _ tw_w371 tw_kc400 rfl ?_
  refine tw_g2_1N (k := 403) (v := .int (r1.2 403 1)) X dX6_readArea_21 _ tw_w169 tw_kc403 rfl ?_
  refine r_iconst X dX6_readArea_24 (v := (1 : Int32)) (by decide) ?_
  refine r_isub X dX6_readArea_25 ?_
  refine r_bd (fun r3 hr3 => ?_)
  refine tw_c_X6_takeNumber X dX6_readArea_26 _ tw_w901  hr3 (tw_le hfr rfl) (tw_le hlo rfl) hcs (Nat.le_of_ble_eq_true rfl) trivial ?_
  refine r_istore_n X dX6_readArea_29 rfl (by decide) (LL := fun v4 => [(2, .int v4), (1, .int v2), (0, .ref (tw_zB z + 400))]) (fun _ => rfl) (fun v4 => ?_)
  refine r_aload_n X dX6_readArea_30 rfl 2 rfl ?_
  refine r_iload_n X dX6_readArea_31 rfl 1 rfl ?_
  refine r_aload_n X dX6_readArea_32 rfl 2 rfl ?_
  refine tw_g6_2 (k := 400) (v := .ref (tw_zB z + 403)) X dX6_readArea_33 _ tw_w371 tw_kc400 rfl ?_
  refine tw_g2_0N (k := 403) (v := .int (r3.2 403 0)) X dX6_readArea_36 _ tw_w166 tw_kc403 rfl ?_
  refine r_iconst X dX6_readArea_39 (v := (1 : Int32)) (by decide) ?_
  refine r_isub X dX6_readArea_40 ?_
  refine r_bd (fun r5 hr5 => ?_)
  refine tw_c_X6_takeNumber X dX6_readArea_41 _ tw_w901  hr5 (tw_le hfr rfl) (tw_le hlo rfl) hcs (Nat.le_of_ble_eq_true rfl) trivial ?_
  refine r_istore_n X dX6_readArea_44 rfl (by decide) (LL := fun v6 => [(3, .int v6), (2, .int v4), (1, .int v2), (0, .ref (tw_zB z + 400))]) (fun _ => rfl) (fun v6 => ?_)
  refine r_aload_n X dX6_readArea_45 rfl 3 rfl ?_
  refine r_iload_n X dX6_readArea_46 rfl 1 rfl ?_
  refine r_aload_n X dX6_readArea_47 rfl 3 rfl ?_
  refine tw_g6_2 (k := 400) (v := .ref (tw_zB z + 403)) X dX6_readArea_48 _ tw_w371 tw_kc400 rfl ?_
  refine tw_g2_1N (k := 403) (v := .int (r5.2 403 1)) X dX6_readArea_51 _ tw_w169 tw_kc403 rfl ?_
  refine r_iconst X dX6_readArea_54 (v := (1 : Int32)) (by decide) ?_
  refine r_isub X dX6_readArea_55 ?_
  refine r_bd (fun r7 hr7 => ?_)
  refine tw_c_X6_takeNumber X dX6_readArea_56 _ tw_w901  hr7 (tw_le hfr rfl) (tw_le hlo rfl) hcs (Nat.le_of_ble_eq_true rfl) trivial ?_
  refine r_istore X dX6_readArea_59 (by decide) (LL := fun v8 => [(4, .int v8), (3, .int v6), (2, .int v4), (1, .int v2), (0, .ref (tw_zB z + 400))]) (fun _ => rfl) (fun v8 => ?_)
  refine r_aload_n X dX6_readArea_61 rfl 4 rfl ?_
  refine r_iload_n X dX6_readArea_62 rfl 3 rfl ?_
  refine r_iload_n X dX6_readArea_63 rfl 2 rfl ?_
  refine r_bd (fun r9 hr9 => ?_)
  refine tw_c_X11_spotAtn X dX6_readArea_64 _ tw_w920  hr9 (tw_le hfr rfl) (tw_le hlo rfl) hcs (Nat.le_of_ble_eq_true rfl) trivial ?_
  refine tw_s6_9 (k := 400) X dX6_readArea_67 _ tw_w380 tw_kc400 (fun σ10 => ?_)
  refine r_aload_n X dX6_readArea_70 rfl 4 rfl ?_
  refine r_iload_n X dX6_readArea_71 rfl 1 rfl ?_
  refine r_iload X dX6_readArea_72 0 rfl ?_
  refine r_bd (fun r11 hr11 => ?_)
  refine tw_c_X11_spotAtn X dX6_readArea_74 _ tw_w920  hr11 (tw_le hfr rfl) (tw_le hlo rfl) hcs (Nat.le_of_ble_eq_true rfl) trivial ?_
  refine tw_s6_10 (k := 400) X dX6_readArea_77 _ tw_w381 tw_kc400 (fun σ12 => ?_)
  exact r_vret X dX6_readArea_80 hret hQ rfl
theorem tw_c_X6_readArea {ρ : Type} {z : tw_Z} {cc : ByteArray} {own : String} {nL pc : Nat} {σ : tw_Sg} {L : List (Nat × Value)} {st : List Value} {ix : Nat} {n : Nat}  (X : tw_X z cc own nL) (d : decode cc pc = .ok (.invokevirtual ix, 3)) (i : Nat) (hi : lw_tbl[i]? = some (.methodLink own ix yX6_readArea))  {res : ρ} {E : Option ρ} {r : tw_Sg} (h : tw_P_X6_readArea n σ = some r) (h1 : 4 ≤ (tw_zR z).frames) (h2 : 89 ≤ (tw_zR z).locals) (hcs : tw_zcells z ≤ (tw_zR z).cells ∧ tw_zslots z ≤ (tw_zR z).slots) (hst : (st.map fun v => v.category).sum ≤ 8) (_ : True) (kk : tw_Rf z res E r (pc + 3) L (st)) : tw_Rf z res E σ pc L (.ref (tw_zB z + 400) :: st) := r_callV (As := []) X d (tw_m_X6_readArea  h) tw_y_X6_readArea tw_v_X6_readArea i hi rfl (tw_kd_lt tw_kc400 (by decide)) (tw_E6 tw_kc400) rfl ⟨rfl, rfl, h1, h2⟩ hcs hst rfl kk
def tw_P_X6_readWater (n : Nat)  (σ : tw_Sg) : Option (tw_Sg) :=
tw_bd (tw_P_X6_advance n σ) (fun r1 =>
tw_lt (r1 400 4) (fun (v2 : Int32) =>
tw_bd (tw_P_X6_readArea n r1) (fun r3 =>
tw_bd (tw_P_X2_standsOnMark n 403 (r3 400 9) (r3 400 10) r3) (fun r4 =>
tw_jn (fun (a5 : tw_Sg) =>
tw_bd (tw_P_X2_flood n 403 (a5 400 9) (a5 400 10) a5) (fun r7 =>
tw_lt (r7 400 4) (fun (v8 : Int32) =>
tw_bd (tw_P_X6_takeSemicolon n r7) (fun r9 =>
tw_bd (tw_P_X0_count n 404 r9) (fun r10 =>
tw_jn (fun (a11 : tw_Sg) =>
some a11) (fun (j12 : (tw_Sg) → Option (tw_Sg)) =>
if ¬ r10 = 0 then (j12 r9)
else (tw_bd (tw_P_X6_fail (-7 : Int32) v8 r9) (fun r13 =>
j12 r13)))))))) (fun (j6 : (tw_Sg) → Option (tw_Sg)) =>
tw_jn (fun (a14 : Unit) =>
tw_bd (tw_P_X6_fail (-7 : Int32) v2 r3) (fun r16 =>
j6 r16)) (fun (j15 : (Unit) → Option (tw_Sg)) =>
if ¬ r4 = 0 then (j15 ())
else (tw_bd (tw_P_X11_isBetween (r3 400 9) (r3 400 10) (r3 403 10) r3) (fun r17 =>
if r17 = 0 then (j6 r3)
else (j15 ())))))))))
theorem tw_y_X6_readWater : tw_My yX6_readWater cX6_readWater 2 none 0 := ⟨List.mem_of_getElem? tw_w915, List.mem_of_getElem? tw_w47, by decide +kernel, by decide +kernel, by decide +kernel⟩
theorem tw_v_X6_readWater : tw_Mv yX6_readWater "TreasureWalk$Reader" := ⟨List.mem_of_getElem? tw_w914, List.mem_of_getElem? tw_w15, rfl⟩
set_option maxRecDepth 100000 in
set_option maxHeartbeats 4000000 in
theorem tw_m_X6_readWater {l : Launch} {B : Nat} {D : tw_G} {C : Nat → ClassId} {S : Nat → Nat} {n : Nat}  {σ : tw_Sg}  {r : tw_Sg} (h : tw_P_X6_readWater n σ = some r) : tw_Met l B D C S yX6_readWater cX6_readWater 2 none ({ frames := 4, cells := 0, slots := 0, locals := 89 } : Room) [.ref (B + 400)] σ (none) r := by
  refine tw_metOfP (tw_P_X6_readWater n σ) r h (fun r => (none, r)) (by decide +kernel) (Nat.le_of_ble_eq_true rfl) ⟨rfl, rfl⟩ ?_
  intro z el eB eD eC eS hfr hlo hcs X hret hQ
  subst el eB eD eC eS
  have X : tw_X z cX6_readWater "TreasureWalk$Reader" 2 := X
  show tw_Rf z r _ σ 0 [(0, .ref (tw_zB z + 400))] []
  unfold tw_P_X6_readWater
  refine r_aload_n X dX6_readWater_0 rfl 0 rfl ?_
  refine r_bd (fun r1 hr1 => ?_)
  refine tw_c_X6_advance X dX6_readWater_1 _ tw_w828  hr1 (tw_le hfr rfl) (tw_le hlo rfl) hcs (Nat.le_of_ble_eq_true rfl) trivial ?_
  refine r_aload_n X dX6_readWater_4 rfl 0 rfl ?_
  refine tw_g6_4 (k := 400) (v := .int (r1 400 4)) X dX6_readWater_5 _ tw_w374 tw_kc400 rfl ?_
  refine r_istore_n X dX6_readWater_8 rfl (by decide) (LL := fun v2 => [(1, .int v2), (0, .ref (tw_zB z + 400))]) (fun _ => rfl) (fun v2 => ?_)
  refine r_aload_n X dX6_readWater_9 rfl 1 rfl ?_
  refine r_bd (fun r3 hr3 => ?_)
  refine tw_c_X6_readArea X dX6_readWater_10 _ tw_w916  hr3 (tw_le hfr rfl) (tw_le hlo rfl) hcs (Nat.le_of_ble_eq_true rfl) trivial ?_
  refine r_aload_n X dX6_readWater_13 rfl 1 rfl ?_
  refine tw_g6_2 (k := 400) (v := .ref (tw_zB z + 403)) X dX6_readWater_14 _ tw_w371 tw_kc400 rfl ?_
  refine r_aload_n X dX6_readWater_17 rfl 1 rfl ?_
  refine tw_g6_9 (k := 400) (v := .int (r3 400 9)) X dX6_readWater_18 _ tw_w380 tw_kc400 rfl ?_
  refine r_aload_n X dX6_readWater_21 rfl 1 rfl ?_
  refine tw_g6_10 (k := 400) (v := .int (r3 400 10)) X dX6_readWater_22 _ tw_w381 tw_kc400 rfl ?_
  refine r_bd (fun r4 hr4 => ?_)
  refine tw_c_X2_standsOnMark X dX6_readWater_25 _ tw_w921 tw_kc403 hr4 (tw_le hfr rfl) (tw_le hlo rfl) hcs (Nat.le_of_ble_eq_true rfl) trivial ?_
  refine r_jn (α := tw_Sg) (σJ := fun a5 => a5) (pcJ := 59) (LJ := fun a5 => [(0, .ref (tw_zB z + 400))]) (stJ := fun a5 => []) (ok := fun a5 => True) (fun a5 hoka5 => ?_) (fun j6 hj6 => ?_)
  ·
    refine r_aload_n X dX6_readWater_59 rfl 0 rfl ?_
    refine tw_g6_2 (k := 400) (v := .ref (tw_zB z + 403)) X dX6_readWater_60 _ tw_w371 tw_kc400 rfl ?_
    refine r_aload_n X dX6_readWater_63 rfl 0 rfl ?_
    refine tw_g6_9 (k := 400) (v := .int (a5 400 9)) X dX6_readWater_64 _ tw_w380 tw_kc400 rfl ?_
    refine r_aload_n X dX6_readWater_67 rfl 0 rfl ?_
    refine tw_g6_10 (k := 400) (v := .int (a5 400 10)) X dX6_readWater_68 _ tw_w381 tw_kc400 rfl ?_
    refine r_bd (fun r7 hr7 => ?_)
    refine tw_c_X2_flood X dX6_readWater_71 _ tw_w928 tw_kc403 hr7 (tw_le hfr rfl) (tw_le hlo rfl) hcs (Nat.le_of_ble_eq_true rfl) trivial ?_
    refine r_aload_n X dX6_readWater_74 rfl 0 rfl ?_
    refine tw_g6_4 (k := 400) (v := .int (r7 400 4)) X dX6_readWater_75 _ tw_w374 tw_kc400 rfl ?_
    refine r_istore_n X dX6_readWater_78 rfl (by decide) (LL := fun v8 => [(1, .int v8), (0, .ref (tw_zB z + 400))]) (fun _ => rfl) (fun v8 => ?_)
    refine r_aload_n X dX6_readWater_79 rfl 1 rfl ?_
    refine r_bd (fun r9 hr9 => ?_)
    refine tw_c_X6_takeSemicolon X dX6_readWater_80 _ tw_w906  hr9 (tw_le hfr rfl) (tw_le hlo rfl) hcs (Nat.le_of_ble_eq_true rfl) trivial ?_
    refine r_aload_n X dX6_readWater_83 rfl 1 rfl ?_
    refine tw_g6_2 (k := 400) (v := .ref (tw_zB z + 403)) X dX6_readWater_84 _ tw_w371 tw_kc400 rfl ?_
    refine tw_g2_2N (k := 403) (v := .ref (tw_zB z + 404)) X dX6_readWater_87 _ tw_w172 tw_kc403 rfl ?_
    refine r_bd (fun r10 hr10 => ?_)
    refine tw_c_X0_count X dX6_readWater_90 _ tw_w936 tw_kc404 hr10 (tw_le hfr rfl) (tw_le hlo rfl) hcs (Nat.le_of_ble_eq_true rfl) trivial ?_
    refine r_jn (α := tw_Sg) (σJ := fun a11 => a11) (pcJ := 103) (LJ := fun a11 => []) (stJ := fun a11 => []) (ok := fun a11 => True) (fun a11 hoka11 => ?_) (fun j12 hj12 => ?_)
    ·
      exact r_vret X dX6_readWater_103 hret hQ rfl
    refine r_if_ne X dX6_readWater_93 (tgt := 103) (by decide) ?_ ?_
    ·
      exact tw_Rf.sub [] rfl (hj12 r9 trivial)
    ·
      refine r_aload_n X dX6_readWater_96 rfl 1 rfl ?_
      refine r_bipush X dX6_readWater_97 (v := (-7 : Int32)) (by decide) ?_
      refine r_iload_n X dX6_readWater_99 rfl 0 rfl ?_
      refine r_bd (fun r13 hr13 => ?_)
      refine tw_c_X6_fail X dX6_readWater_100 _ tw_w897  hr13 (tw_le hfr rfl) (tw_le hlo rfl) hcs (Nat.le_of_ble_eq_true rfl) trivial ?_
      exact tw_Rf.sub [] rfl (hj12 r13 trivial)
  refine r_jn (α := Unit) (σJ := fun a14 => r3) (pcJ := 52) (LJ := fun a14 => [(1, .int v2), (0, .ref (tw_zB z + 400))]) (stJ := fun a14 => []) (ok := fun a14 => True) (fun a14 hoka14 => ?_) (fun j15 hj15 => ?_)
  ·
    refine r_aload_n X dX6_readWater_52 rfl 1 rfl ?_
    refine r_bipush X dX6_readWater_53 (v := (-7 : Int32)) (by decide) ?_
    refine r_iload_n X dX6_readWater_55 rfl 0 rfl ?_
    refine r_bd (fun r16 hr16 => ?_)
    refine tw_c_X6_fail X dX6_readWater_56 _ tw_w897  hr16 (tw_le hfr rfl) (tw_le hlo rfl) hcs (Nat.le_of_ble_eq_true rfl) trivial ?_
    exact tw_Rf.sub [1] rfl (hj6 r16 trivial)
  refine r_if_ne X dX6_readWater_28 (tgt := 52) (by decide) ?_ ?_
  ·
    exact hj15 () trivial
  ·
    refine r_aload_n X dX6_readWater_31 rfl 1 rfl ?_
    refine tw_g6_9 (k := 400) (v := .int (r3 400 9)) X dX6_readWater_32 _ tw_w380 tw_kc400 rfl ?_
    refine r_aload_n X dX6_readWater_35 rfl 1 rfl ?_
    refine tw_g6_10 (k := 400) (v := .int (r3 400 10)) X dX6_readWater_36 _ tw_w381 tw_kc400 rfl ?_
    refine r_aload_n X dX6_readWater_39 rfl 1 rfl ?_
    refine tw_g6_2 (k := 400) (v := .ref (tw_zB z + 403)) X dX6_readWater_40 _ tw_w371 tw_kc400 rfl ?_
    refine tw_g2_10N (k := 403) (v := .int (r3 403 10)) X dX6_readWater_43 _ tw_w199 tw_kc403 rfl ?_
    refine r_bd (fun r17 hr17 => ?_)
    refine tw_c_X11_isBetweenn X dX6_readWater_46 _ tw_w927  hr17 (tw_le hfr rfl) (tw_le hlo rfl) hcs (Nat.le_of_ble_eq_true rfl) trivial ?_
    refine r_if_eq X dX6_readWater_49 (tgt := 59) (by decide) ?_ ?_
    ·
      exact tw_Rf.sub [1] rfl (hj6 r3 trivial)
    ·
      exact hj15 () trivial
theorem tw_c_X6_readWater {ρ : Type} {z : tw_Z} {cc : ByteArray} {own : String} {nL pc : Nat} {σ : tw_Sg} {L : List (Nat × Value)} {st : List Value} {ix : Nat} {n : Nat}  (X : tw_X z cc own nL) (d : decode cc pc = .ok (.invokevirtual ix, 3)) (i : Nat) (hi : lw_tbl[i]? = some (.methodLink own ix yX6_readWater))  {res : ρ} {E : Option ρ} {r : tw_Sg} (h : tw_P_X6_readWater n σ = some r) (h1 : 5 ≤ (tw_zR z).frames) (h2 : 110 ≤ (tw_zR z).locals) (hcs : tw_zcells z ≤ (tw_zR z).cells ∧ tw_zslots z ≤ (tw_zR z).slots) (hst : (st.map fun v => v.category).sum ≤ 8) (_ : True) (kk : tw_Rf z res E r (pc + 3) L (st)) : tw_Rf z res E σ pc L (.ref (tw_zB z + 400) :: st) := r_callV (As := []) X d (tw_m_X6_readWater  h) tw_y_X6_readWater tw_v_X6_readWater i hi rfl (tw_kd_lt tw_kc400 (by decide)) (tw_E6 tw_kc400) rfl ⟨rfl, rfl, h1, h2⟩ hcs hst rfl kk
def tw_P_X6_readBend (n : Nat)  (σ : tw_Sg) : Option (tw_Sg) :=
tw_jn (fun (a1 : tw_Sg) =>
tw_bd (tw_P_X6_advance n a1) (fun r3 =>
tw_bd (tw_P_X6_readArea n r3) (fun r4 =>
tw_bd (tw_P_X6_isWord n 6 r4) (fun r5 =>
tw_lt r5 (fun (v6 : Int32) =>
tw_jn (fun (a7 : tw_Sg) =>
tw_bd (tw_P_X6_takeNumber n (1 : Int32) (3 : Int32) a7) (fun r9 =>
tw_lt r9.1 (fun (v10 : Int32) =>
tw_bd (tw_P_X6_takeSemicolon n r9.2) (fun r11 =>
tw_jn (fun (a12 : Int32) =>
tw_bd (tw_P_X2_addBend 403 (r11 400 9) (r11 400 10) a12 r11) (fun r14 =>
some r14)) (fun (j13 : (Int32) → Option (tw_Sg)) =>
if v6 = 0 then (j13 v10)
else (j13 (-v10))))))) (fun (j8 : (tw_Sg) → Option (tw_Sg)) =>
if v6 = 0 then (tw_bd (tw_P_X6_takeWord n 7 r4) (fun r15 =>
j8 r15))
else (tw_bd (tw_P_X6_advance n r4) (fun r16 =>
j8 r16)))))))) (fun (j2 : (tw_Sg) → Option (tw_Sg)) =>
if (σ 403 5) < (8 : Int32) then (j2 σ)
else (tw_bd (tw_P_X6_fail (-6 : Int32) (σ 400 4) σ) (fun r17 =>
j2 r17)))
theorem tw_y_X6_readBend : tw_My yX6_readBend cX6_readBend 3 none 0 := ⟨List.mem_of_getElem? tw_w950, List.mem_of_getElem? tw_w47, by decide +kernel, by decide +kernel, by decide +kernel⟩
theorem tw_v_X6_readBend : tw_Mv yX6_readBend "TreasureWalk$Reader" := ⟨List.mem_of_getElem? tw_w949, List.mem_of_getElem? tw_w17, rfl⟩
set_option maxRecDepth 100000 in
set_option maxHeartbeats 4000000 in
theorem tw_m_X6_readBend {l : Launch} {B : Nat} {D : tw_G} {C : Nat → ClassId} {S : Nat → Nat} {n : Nat}  {σ : tw_Sg}  {r : tw_Sg} (h : tw_P_X6_readBend n σ = some r) : tw_Met l B D C S yX6_readBend cX6_readBend 3 none ({ frames := 8, cells := 0, slots := 0, locals := 163 } : Room) [.ref (B + 400)] σ (none) r := by
  refine tw_metOfP (tw_P_X6_readBend n σ) r h (fun r => (none, r)) (by decide +kernel) (Nat.le_of_ble_eq_true rfl) ⟨rfl, rfl⟩ ?_
  intro z el eB eD eC eS hfr hlo hcs X hret hQ
  subst el eB eD eC eS
  have X : tw_X z cX6_readBend "TreasureWalk$Reader" 3 := X
  show tw_Rf z r _ σ 0 [(0, .ref (tw_zB z + 400))] []
  unfold tw_P_X6_readBend
  refine r_aload_n X dX6_readBend_0 rfl 0 rfl ?_
  refine tw_g6_2 (k := 400) (v := .ref (tw_zB z + 403)) X dX6_readBend_1 _ tw_w371 tw_kc400 rfl ?_
  refine tw_g2_5N (k := 403) (v := .int (σ 403 5)) X dX6_readBend_4 _ tw_w184 tw_kc403 rfl ?_
  refine r_bipush X dX6_readBend_7 (v := (8 : Int32)) (by decide) ?_
  refine r_jn (α := tw_Sg) (σJ := fun a1 => a1) (pcJ := 22) (LJ := fun a1 => [(0, .ref (tw_zB z + 400))]) (stJ := fun a1 => []) (ok := fun a1 => True) (fun a1 hoka1 => ?_) (fun j2 hj2 => ?_)
  ·
    refine r_aload_n X dX6_readBend_22 rfl 0 rfl ?_
    refine r_bd (fun r3 hr3 => ?_)
    refine tw_c_X6_advance X dX6_readBend_23 _ tw_w828  hr3 (tw_le hfr rfl) (tw_le hlo rfl) hcs (Nat.le_of_ble_eq_true rfl) trivial ?_
    refine r_aload_n X dX6_readBend_26 rfl 0 rfl ?_
    refine r_bd (fun r4 hr4 => ?_)
    refine tw_c_X6_readArea X dX6_readBend_27 _ tw_w916  hr4 (tw_le hfr rfl) (tw_le hlo rfl) hcs (Nat.le_of_ble_eq_true rfl) trivial ?_
    refine r_aload_n X dX6_readBend_30 rfl 0 rfl ?_
    refine r_ldcS X dX6_readBend_31 (j := 6) tw_l_R_146 ?_
    refine r_bd (fun r5 hr5 => ?_)
    refine tw_c_X6_isWord X dX6_readBend_33 _ tw_w845 (by decide) hr5 (tw_le hfr rfl) (tw_le hlo rfl) hcs (Nat.le_of_ble_eq_true rfl) trivial ?_
    refine r_istore_n X dX6_readBend_36 rfl (by decide) (LL := fun v6 => [(1, .int v6), (0, .ref (tw_zB z + 400))]) (fun _ => rfl) (fun v6 => ?_)
    refine r_iload_n X dX6_readBend_37 rfl 0 rfl ?_
    refine r_jn (α := tw_Sg) (σJ := fun a7 => a7) (pcJ := 54) (LJ := fun a7 => [(1, .int v6), (0, .ref (tw_zB z + 400))]) (stJ := fun a7 => []) (ok := fun a7 => True) (fun a7 hoka7 => ?_) (fun j8 hj8 => ?_)
    ·
      refine r_aload_n X dX6_readBend_54 rfl 1 rfl ?_
      refine r_iconst X dX6_readBend_55 (v := (1 : Int32)) (by decide) ?_
      refine r_iconst X dX6_readBend_56 (v := (3 : Int32)) (by decide) ?_
      refine r_bd (fun r9 hr9 => ?_)
      refine tw_c_X6_takeNumber X dX6_readBend_57 _ tw_w901  hr9 (tw_le hfr rfl) (tw_le hlo rfl) hcs (Nat.le_of_ble_eq_true rfl) trivial ?_
      refine r_istore_n X dX6_readBend_60 rfl (by decide) (LL := fun v10 => [(2, .int v10), (1, .int v6), (0, .ref (tw_zB z + 400))]) (fun _ => rfl) (fun v10 => ?_)
      refine r_aload_n X dX6_readBend_61 rfl 2 rfl ?_
      refine r_bd (fun r11 hr11 => ?_)
      refine tw_c_X6_takeSemicolon X dX6_readBend_62 _ tw_w906  hr11 (tw_le hfr rfl) (tw_le hlo rfl) hcs (Nat.le_of_ble_eq_true rfl) trivial ?_
      refine r_aload_n X dX6_readBend_65 rfl 2 rfl ?_
      refine tw_g6_2 (k := 400) (v := .ref (tw_zB z + 403)) X dX6_readBend_66 _ tw_w371 tw_kc400 rfl ?_
      refine r_aload_n X dX6_readBend_69 rfl 2 rfl ?_
      refine tw_g6_9 (k := 400) (v := .int (r11 400 9)) X dX6_readBend_70 _ tw_w380 tw_kc400 rfl ?_
      refine r_aload_n X dX6_readBend_73 rfl 2 rfl ?_
      refine tw_g6_10 (k := 400) (v := .int (r11 400 10)) X dX6_readBend_74 _ tw_w381 tw_kc400 rfl ?_
      refine r_iload_n X dX6_readBend_77 rfl 1 rfl ?_
      refine r_jn (α := Int32) (σJ := fun a12 => r11) (pcJ := 87) (LJ := fun a12 => []) (stJ := fun a12 => [.int a12, .int (r11 400 10), .int (r11 400 9), .ref (tw_zB z + 403)]) (ok := fun a12 => True) (fun a12 hoka12 => ?_) (fun j13 hj13 => ?_)
      ·
        refine r_bd (fun r14 hr14 => ?_)
        refine tw_c_X2_addBend X dX6_readBend_87 _ tw_w953 tw_kc403 hr14 (tw_le hfr rfl) (tw_le hlo rfl) hcs (Nat.le_of_ble_eq_true rfl) trivial ?_
        exact r_vret X dX6_readBend_90 hret hQ rfl
      refine r_if_eq X dX6_readBend_78 (tgt := 86) (by decide) ?_ ?_
      ·
        refine r_iload_n X dX6_readBend_86 rfl 0 rfl ?_
        exact tw_Rf.sub [] rfl (hj13 v10 trivial)
      ·
        refine r_iload_n X dX6_readBend_81 rfl 0 rfl ?_
        refine r_ineg X dX6_readBend_82 ?_
        refine r_goto X dX6_readBend_83 (tgt := 87) (by decide) ?_
        exact tw_Rf.sub [] rfl (hj13 (-v10) trivial)
    refine r_if_eq X dX6_readBend_38 (tgt := 48) (by decide) ?_ ?_
    ·
      refine r_aload_n X dX6_readBend_48 rfl 1 rfl ?_
      refine r_ldcS X dX6_readBend_49 (j := 7) tw_l_R_148 ?_
      refine r_bd (fun r15 hr15 => ?_)
      refine tw_c_X6_takeWord X dX6_readBend_51 _ tw_w841 (by decide) hr15 (tw_le hfr rfl) (tw_le hlo rfl) hcs (Nat.le_of_ble_eq_true rfl) trivial ?_
      exact hj8 r15 trivial
    ·
      refine r_aload_n X dX6_readBend_41 rfl 1 rfl ?_
      refine r_bd (fun r16 hr16 => ?_)
      refine tw_c_X6_advance X dX6_readBend_42 _ tw_w828  hr16 (tw_le hfr rfl) (tw_le hlo rfl) hcs (Nat.le_of_ble_eq_true rfl) trivial ?_
      refine r_goto X dX6_readBend_45 (tgt := 54) (by decide) ?_
      exact hj8 r16 trivial
  refine r_icmp_lt X dX6_readBend_9 (tgt := 22) (by decide) ?_ ?_
  ·
    exact hj2 σ trivial
  ·
    refine r_aload_n X dX6_readBend_12 rfl 0 rfl ?_
    refine r_bipush X dX6_readBend_13 (v := (-6 : Int32)) (by decide) ?_
    refine r_aload_n X dX6_readBend_15 rfl 0 rfl ?_
    refine tw_g6_4 (k := 400) (v := .int (σ 400 4)) X dX6_readBend_16 _ tw_w374 tw_kc400 rfl ?_
    refine r_bd (fun r17 hr17 => ?_)
    refine tw_c_X6_fail X dX6_readBend_19 _ tw_w897  hr17 (tw_le hfr rfl) (tw_le hlo rfl) hcs (Nat.le_of_ble_eq_true rfl) trivial ?_
    exact hj2 r17 trivial
theorem tw_c_X6_readBend {ρ : Type} {z : tw_Z} {cc : ByteArray} {own : String} {nL pc : Nat} {σ : tw_Sg} {L : List (Nat × Value)} {st : List Value} {ix : Nat} {n : Nat}  (X : tw_X z cc own nL) (d : decode cc pc = .ok (.invokevirtual ix, 3)) (i : Nat) (hi : lw_tbl[i]? = some (.methodLink own ix yX6_readBend))  {res : ρ} {E : Option ρ} {r : tw_Sg} (h : tw_P_X6_readBend n σ = some r) (h1 : 9 ≤ (tw_zR z).frames) (h2 : 185 ≤ (tw_zR z).locals) (hcs : tw_zcells z ≤ (tw_zR z).cells ∧ tw_zslots z ≤ (tw_zR z).slots) (hst : (st.map fun v => v.category).sum ≤ 8) (_ : True) (kk : tw_Rf z res E r (pc + 3) L (st)) : tw_Rf z res E σ pc L (.ref (tw_zB z + 400) :: st) := r_callV (As := []) X d (tw_m_X6_readBend  h) tw_y_X6_readBend tw_v_X6_readBend i hi rfl (tw_kd_lt tw_kc400 (by decide)) (tw_E6 tw_kc400) rfl ⟨rfl, rfl, h1, h2⟩ hcs hst rfl kk
def tw_P_X6_markAhead  (σ : tw_Sg) : Option (Int32 × tw_Sg) :=
tw_bd (tw_P_X7_get 401 (σ 400 4) σ) (fun r1 =>
tw_lt (r1 - (97 : Int32)) (fun (v2 : Int32) =>
tw_jn (fun (a3 : Unit) =>
tw_bd (tw_P_X6_fail (-2 : Int32) (σ 400 4) σ) (fun r5 =>
some ((-1 : Int32), r5))) (fun (j4 : (Unit) → Option (Int32 × tw_Sg)) =>
if ¬ (σ 400 6) = (1 : Int32) then (j4 ())
else (if ¬ ((σ 400 5) - (σ 400 4)) = (1 : Int32) then (j4 ())
else (if (8 : Int32) ≤ v2 then (j4 ())
else (some (v2, σ)))))))
theorem tw_y_X6_markAhead : tw_My yX6_markAhead cX6_markAhead 2 (some .int) 0 := ⟨List.mem_of_getElem? tw_w966, List.mem_of_getElem? tw_w47, by decide +kernel, by decide +kernel, by decide +kernel⟩
theorem tw_v_X6_markAhead : tw_Mv yX6_markAhead "TreasureWalk$Reader" := ⟨List.mem_of_getElem? tw_w965, List.mem_of_getElem? tw_w19, rfl⟩
set_option maxRecDepth 100000 in
set_option maxHeartbeats 4000000 in
theorem tw_m_X6_markAhead {l : Launch} {B : Nat} {D : tw_G} {C : Nat → ClassId} {S : Nat → Nat}  {σ : tw_Sg}  {r : Int32 × tw_Sg} (h : tw_P_X6_markAhead σ = some r) : tw_Met l B D C S yX6_markAhead cX6_markAhead 2 (some .int) ({ frames := 1, cells := 0, slots := 0, locals := 22 } : Room) [.ref (B + 400)] σ (some (.int r.1)) r.2 := by
  refine tw_metOfP (tw_P_X6_markAhead σ) r h (fun r => (some (.int r.1), r.2)) (by decide +kernel) (Nat.le_of_ble_eq_true rfl) ⟨rfl, rfl⟩ ?_
  intro z el eB eD eC eS hfr hlo hcs X hret hQ
  subst el eB eD eC eS
  have X : tw_X z cX6_markAhead "TreasureWalk$Reader" 2 := X
  show tw_Rf z r _ σ 0 [(0, .ref (tw_zB z + 400))] []
  unfold tw_P_X6_markAhead
  refine r_aload_n X dX6_markAhead_0 rfl 0 rfl ?_
  refine tw_g6_0 (k := 400) (v := .ref (tw_zB z + 401)) X dX6_markAhead_1 _ tw_w368 tw_kc400 rfl ?_
  refine r_aload_n X dX6_markAhead_4 rfl 0 rfl ?_
  refine tw_g6_4 (k := 400) (v := .int (σ 400 4)) X dX6_markAhead_5 _ tw_w374 tw_kc400 rfl ?_
  refine r_bd (fun r1 hr1 => ?_)
  refine tw_c_X7_get X dX6_markAhead_8 _ tw_w832 tw_kc401 hr1 (tw_le hfr rfl) (tw_le hlo rfl) hcs (Nat.le_of_ble_eq_true rfl) trivial ?_
  refine r_bipush X dX6_markAhead_11 (v := (97 : Int32)) (by decide) ?_
  refine r_isub X dX6_markAhead_13 ?_
  refine r_istore_n X dX6_markAhead_14 rfl (by decide) (LL := fun v2 => [(1, .int v2), (0, .ref (tw_zB z + 400))]) (fun _ => rfl) (fun v2 => ?_)
  refine r_aload_n X dX6_markAhead_15 rfl 1 rfl ?_
  refine tw_g6_6 (k := 400) (v := .int (σ 400 6)) X dX6_markAhead_16 _ tw_w376 tw_kc400 rfl ?_
  refine r_iconst X dX6_markAhead_19 (v := (1 : Int32)) (by decide) ?_
  refine r_jn (α := Unit) (σJ := fun a3 => σ) (pcJ := 44) (LJ := fun a3 => [(0, .ref (tw_zB z + 400))]) (stJ := fun a3 => []) (ok := fun a3 => True) (fun a3 hoka3 => ?_) (fun j4 hj4 => ?_)
  ·
    refine r_aload_n X dX6_markAhead_44 rfl 0 rfl ?_
    refine r_bipush X dX6_markAhead_45 (v := (-2 : Int32)) (by decide) ?_
    refine r_aload_n X dX6_markAhead_47 rfl 0 rfl ?_
    refine tw_g6_4 (k := 400) (v := .int (σ 400 4)) X dX6_markAhead_48 _ tw_w374 tw_kc400 rfl ?_
    refine r_bd (fun r5 hr5 => ?_)
    refine tw_c_X6_fail X dX6_markAhead_51 _ tw_w897  hr5 (tw_le hfr rfl) (tw_le hlo rfl) hcs (Nat.le_of_ble_eq_true rfl) trivial ?_
    refine r_iconst X dX6_markAhead_54 (v := (-1 : Int32)) (by decide) ?_
    exact r_iret X dX6_markAhead_55 hret hQ rfl
  refine r_icmp_ne X dX6_markAhead_20 (tgt := 44) (by decide) ?_ ?_
  ·
    exact tw_Rf.sub [1] rfl (hj4 () trivial)
  ·
    refine r_aload_n X dX6_markAhead_23 rfl 1 rfl ?_
    refine tw_g6_5 (k := 400) (v := .int (σ 400 5)) X dX6_markAhead_24 _ tw_w375 tw_kc400 rfl ?_
    refine r_aload_n X dX6_markAhead_27 rfl 1 rfl ?_
    refine tw_g6_4 (k := 400) (v := .int (σ 400 4)) X dX6_markAhead_28 _ tw_w374 tw_kc400 rfl ?_
    refine r_isub X dX6_markAhead_31 ?_
    refine r_iconst X dX6_markAhead_32 (v := (1 : Int32)) (by decide) ?_
    refine r_icmp_ne X dX6_markAhead_33 (tgt := 44) (by decide) ?_ ?_
    ·
      exact tw_Rf.sub [1] rfl (hj4 () trivial)
    ·
      refine r_iload_n X dX6_markAhead_36 rfl 0 rfl ?_
      refine r_bipush X dX6_markAhead_37 (v := (8 : Int32)) (by decide) ?_
      refine r_icmp_ge X dX6_markAhead_39 (tgt := 44) (by decide) ?_ ?_
      ·
        exact tw_Rf.sub [1] rfl (hj4 () trivial)
      ·
        refine r_iload_n X dX6_markAhead_42 rfl 0 rfl ?_
        exact r_iret X dX6_markAhead_43 hret hQ rfl
theorem tw_c_X6_markAhead {ρ : Type} {z : tw_Z} {cc : ByteArray} {own : String} {nL pc : Nat} {σ : tw_Sg} {L : List (Nat × Value)} {st : List Value} {ix : Nat}  (X : tw_X z cc own nL) (d : decode cc pc = .ok (.invokevirtual ix, 3)) (i : Nat) (hi : lw_tbl[i]? = some (.methodLink own ix yX6_markAhead))  {res : ρ} {E : Option ρ} {r : Int32 × tw_Sg} (h : tw_P_X6_markAhead σ = some r) (h1 : 2 ≤ (tw_zR z).frames) (h2 : 43 ≤ (tw_zR z).locals) (hcs : tw_zcells z ≤ (tw_zR z).cells ∧ tw_zslots z ≤ (tw_zR z).slots) (hst : (st.map fun v => v.category).sum ≤ 8) (_ : True) (kk : tw_Rf z res E r.2 (pc + 3) L (.int r.1 :: st)) : tw_Rf z res E σ pc L (.ref (tw_zB z + 400) :: st) := r_callV (As := []) X d (tw_m_X6_markAhead  h) tw_y_X6_markAhead tw_v_X6_markAhead i hi rfl (tw_kd_lt tw_kc400 (by decide)) (tw_E6 tw_kc400) rfl ⟨rfl, rfl, h1, h2⟩ hcs hst rfl kk
def tw_P_X6_takeLandSpot (n : Nat)  (σ : tw_Sg) : Option (Int32 × tw_Sg) :=
tw_lt (σ 400 4) (fun (v1 : Int32) =>
tw_bd (tw_P_X6_takeNumber n (0 : Int32) ((σ 403 0) - (1 : Int32)) σ) (fun r2 =>
tw_lt r2.1 (fun (v3 : Int32) =>
tw_bd (tw_P_X6_takeNumber n (0 : Int32) ((r2.2 403 1) - (1 : Int32)) r2.2) (fun r4 =>
tw_lt r4.1 (fun (v5 : Int32) =>
tw_bd (tw_P_X11_spotAt v3 v5 r4.2) (fun r6 =>
tw_lt r6 (fun (v7 : Int32) =>
tw_bd (tw_P_X0_has 404 v7 r4.2) (fun r8 =>
tw_jn (fun (a9 : tw_Sg) =>
some (v7, a9)) (fun (j10 : (tw_Sg) → Option (Int32 × tw_Sg)) =>
if ¬ r8 = 0 then (j10 r4.2)
else (tw_bd (tw_P_X6_fail (-7 : Int32) v1 r4.2) (fun r11 =>
j10 r11)))))))))))
theorem tw_y_X6_takeLandSpot : tw_My yX6_takeLandSpot cX6_takeLandSpot 5 (some .int) 0 := ⟨List.mem_of_getElem? tw_w970, List.mem_of_getElem? tw_w47, by decide +kernel, by decide +kernel, by decide +kernel⟩
theorem tw_v_X6_takeLandSpot : tw_Mv yX6_takeLandSpot "TreasureWalk$Reader" := ⟨List.mem_of_getElem? tw_w969, List.mem_of_getElem? tw_w20, rfl⟩
set_option maxRecDepth 100000 in
set_option maxHeartbeats 4000000 in
theorem tw_m_X6_takeLandSpot {l : Launch} {B : Nat} {D : tw_G} {C : Nat → ClassId} {S : Nat → Nat} {n : Nat}  {σ : tw_Sg}  {r : Int32 × tw_Sg} (h : tw_P_X6_takeLandSpot n σ = some r) : tw_Met l B D C S yX6_takeLandSpot cX6_takeLandSpot 5 (some .int) ({ frames := 3, cells := 0, slots := 0, locals := 65 } : Room) [.ref (B + 400)] σ (some (.int r.1)) r.2 := by
  refine tw_metOfP (tw_P_X6_takeLandSpot n σ) r h (fun r => (some (.int r.1), r.2)) (by decide +kernel) (Nat.le_of_ble_eq_true rfl) ⟨rfl, rfl⟩ ?_
  intro z el eB eD eC eS hfr hlo hcs X hret hQ
  subst el eB eD eC eS
  have X : tw_X z cX6_takeLandSpot "TreasureWalk$Reader" 5 := X
  show tw_Rf z r _ σ 0 [(0, .ref (tw_zB z + 400))] []
  unfold tw_P_X6_takeLandSpot
  refine r_aload_n X dX6_takeLandSpot_0 rfl 0 rfl ?_
  refine tw_g6_4 (k := 400) (v := .int (σ 400 4)) X dX6_takeLandSpot_1 _ tw_w374 tw_kc400 rfl ?_
  refine r_istore_n X dX6_takeLandSpot_4 rfl (by decide) (LL := fun v1 => [(1, .int v1), (0, .ref (tw_zB z + 400))]) (fun _ => rfl) (fun v1 => ?_)
  refine r_aload_n X dX6_takeLandSpot_5 rfl 1 rfl ?_
  refine r_iconst X dX6_takeLandSpot_6 (v := (0 : Int32)) (by decide) ?_
  refine r_aload_n X dX6_takeLandSpot_7 rfl 1 rfl ?_
  refine tw_g6_2 (k := 400) (v := .ref (tw_zB z + 403)) X dX6_takeLandSpot_8 _ tw_w371 tw_kc400 rfl ?_
  refine tw_g2_0N (k := 403) (v := .int (σ 403 0)) X dX6_takeLandSpot_11 _ tw_w166 tw_kc403 rfl ?_
  refine r_iconst X dX6_takeLandSpot_14 (v := (1 : Int32)) (by decide) ?_
  refine r_isub X dX6_takeLandSpot_15 ?_
  refine r_bd (fun r2 hr2 => ?_)
  refine tw_c_X6_takeNumber X dX6_takeLandSpot_16 _ tw_w901  hr2 (tw_le hfr rfl) (tw_le hlo rfl) hcs (Nat.le_of_ble_eq_true rfl) trivial ?_
  refine r_istore_n X dX6_takeLandSpot_19 rfl (by decide) (LL := fun v3 => [(2, .int v3), (1, .int v1), (0, .ref (tw_zB z + 400))]) (fun _ => rfl) (fun v3 => ?_)
  refine r_aload_n X dX6_takeLandSpot_20 rfl 2 rfl ?_
  refine r_iconst X dX6_takeLandSpot_21 (v := (0 : Int32)) (by decide) ?_
  refine r_aload_n X dX6_takeLandSpot_22 rfl 2 rfl ?_
  refine tw_g6_2 (k := 400) (v := .ref (tw_zB z + 403)) X dX6_takeLandSpot_23 _ tw_w371 tw_kc400 rfl ?_
  refine tw_g2_1N (k := 403) (v := .int (r2.2 403 1)) X dX6_takeLandSpot_26 _ tw_w169 tw_kc403 rfl ?_
  refine r_iconst X dX6_takeLandSpot_29 (v := (1 : Int32)) (by decide) ?_
  refine r_isub X dX6_takeLandSpot_30 ?_
  refine r_bd (fun r4 hr4 => ?_)
  refine tw_c_X6_takeNumber X dX6_takeLandSpot_31 _ tw_w901  hr4 (tw_le hfr rfl) (tw_le hlo rfl) hcs (Nat.le_of_ble_eq_true rfl) trivial ?_
  refine r_istore_n X dX6_takeLandSpot_34 rfl (by decide) (LL := fun v5 => [(3, .int v5), (2, .int v3), (1, .int v1), (0, .ref (tw_zB z + 400))]) (fun _ => rfl) (fun v5 => ?_)
  refine r_iload_n X dX6_takeLandSpot_35 rfl 1 rfl ?_
  refine r_iload_n X dX6_takeLandSpot_36 rfl 0 rfl ?_
  refine r_bd (fun r6 hr6 => ?_)
  refine tw_c_X11_spotAtn X dX6_takeLandSpot_37 _ tw_w920  hr6 (tw_le hfr rfl) (tw_le hlo rfl) hcs (Nat.le_of_ble_eq_true rfl) trivial ?_
  refine r_istore X dX6_takeLandSpot_40 (by decide) (LL := fun v7 => [(4, .int v7), (3, .int v5), (2, .int v3), (1, .int v1), (0, .ref (tw_zB z + 400))]) (fun _ => rfl) (fun v7 => ?_)
  refine r_aload_n X dX6_takeLandSpot_42 rfl 4 rfl ?_
  refine tw_g6_2 (k := 400) (v := .ref (tw_zB z + 403)) X dX6_takeLandSpot_43 _ tw_w371 tw_kc400 rfl ?_
  refine tw_g2_2N (k := 403) (v := .ref (tw_zB z + 404)) X dX6_takeLandSpot_46 _ tw_w172 tw_kc403 rfl ?_
  refine r_iload X dX6_takeLandSpot_49 0 rfl ?_
  refine r_bd (fun r8 hr8 => ?_)
  refine tw_c_X0_has X dX6_takeLandSpot_51 _ tw_w971 tw_kc404 hr8 (tw_le hfr rfl) (tw_le hlo rfl) hcs (Nat.le_of_ble_eq_true rfl) trivial ?_
  refine r_jn (α := tw_Sg) (σJ := fun a9 => a9) (pcJ := 64) (LJ := fun a9 => [(4, .int v7)]) (stJ := fun a9 => []) (ok := fun a9 => True) (fun a9 hoka9 => ?_) (fun j10 hj10 => ?_)
  ·
    refine r_iload X dX6_takeLandSpot_64 0 rfl ?_
    exact r_iret X dX6_takeLandSpot_66 hret hQ rfl
  refine r_if_ne X dX6_takeLandSpot_54 (tgt := 64) (by decide) ?_ ?_
  ·
    exact tw_Rf.sub [0] rfl (hj10 r4.2 trivial)
  ·
    refine r_aload_n X dX6_takeLandSpot_57 rfl 4 rfl ?_
    refine r_bipush X dX6_takeLandSpot_58 (v := (-7 : Int32)) (by decide) ?_
    refine r_iload_n X dX6_takeLandSpot_60 rfl 3 rfl ?_
    refine r_bd (fun r11 hr11 => ?_)
    refine tw_c_X6_fail X dX6_takeLandSpot_61 _ tw_w897  hr11 (tw_le hfr rfl) (tw_le hlo rfl) hcs (Nat.le_of_ble_eq_true rfl) trivial ?_
    exact tw_Rf.sub [0] rfl (hj10 r11 trivial)
theorem tw_c_X6_takeLandSpot {ρ : Type} {z : tw_Z} {cc : ByteArray} {own : String} {nL pc : Nat} {σ : tw_Sg} {L : List (Nat × Value)} {st : List Value} {ix : Nat} {n : Nat}  (X : tw_X z cc own nL) (d : decode cc pc = .ok (.invokevirtual ix, 3)) (i : Nat) (hi : lw_tbl[i]? = some (.methodLink own ix yX6_takeLandSpot))  {res : ρ} {E : Option ρ} {r : Int32 × tw_Sg} (h : tw_P_X6_takeLandSpot n σ = some r) (h1 : 4 ≤ (tw_zR z).frames) (h2 : 89 ≤ (tw_zR z).locals) (hcs : tw_zcells z ≤ (tw_zR z).cells ∧ tw_zslots z ≤ (tw_zR z).slots) (hst : (st.map fun v => v.category).sum ≤ 8) (_ : True) (kk : tw_Rf z res E r.2 (pc + 3) L (.int r.1 :: st)) : tw_Rf z res E σ pc L (.ref (tw_zB z + 400) :: st) := r_callV (As := []) X d (tw_m_X6_takeLandSpot  h) tw_y_X6_takeLandSpot tw_v_X6_takeLandSpot i hi rfl (tw_kd_lt tw_kc400 (by decide)) (tw_E6 tw_kc400) rfl ⟨rfl, rfl, h1, h2⟩ hcs hst rfl kk
