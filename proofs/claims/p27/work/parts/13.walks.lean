def tw_P_X6_readMark (n : Nat)  (σ : tw_Sg) : Option (tw_Sg) :=
tw_bd (tw_P_X6_advance n σ) (fun r1 =>
tw_bd (tw_P_X6_markAhead r1) (fun r2 =>
tw_lt r2.1 (fun (v3 : Int32) =>
tw_bd (tw_P_X7_get 408 v3 r2.2) (fun r4 =>
tw_jn (fun (a5 : tw_Sg) =>
tw_bd (tw_P_X6_advance n a5) (fun r7 =>
tw_bd (tw_P_X6_takeLandSpot n r7) (fun r8 =>
tw_bd (tw_P_X7_put 408 v3 r8.1 r8.2) (fun r9 =>
tw_bd (tw_P_X6_takeSemicolon n r9) (fun r10 =>
some r10))))) (fun (j6 : (tw_Sg) → Option (tw_Sg)) =>
if r4 = 0 then (j6 r2.2)
else (tw_bd (tw_P_X6_fail (-4 : Int32) (r2.2 400 4) r2.2) (fun r11 =>
j6 r11)))))))
theorem tw_y_X6_readMark : tw_My yX6_readMark cX6_readMark 2 none 0 := ⟨List.mem_of_getElem? tw_w962, List.mem_of_getElem? tw_w47, by decide +kernel, by decide +kernel, by decide +kernel⟩
theorem tw_v_X6_readMark : tw_Mv yX6_readMark "TreasureWalk$Reader" := ⟨List.mem_of_getElem? tw_w961, List.mem_of_getElem? tw_w18, rfl⟩
set_option maxRecDepth 100000 in
set_option maxHeartbeats 4000000 in
theorem tw_m_X6_readMark {l : Launch} {B : Nat} {D : tw_G} {C : Nat → ClassId} {S : Nat → Nat} {n : Nat}  {σ : tw_Sg}  {r : tw_Sg} (h : tw_P_X6_readMark n σ = some r) : tw_Met l B D C S yX6_readMark cX6_readMark 2 none ({ frames := 4, cells := 0, slots := 0, locals := 89 } : Room) [.ref (B + 400)] σ (none) r := by
  refine tw_metOfP (tw_P_X6_readMark n σ) r h (fun r => (none, r)) (by decide +kernel) (Nat.le_of_ble_eq_true rfl) ⟨rfl, rfl⟩ ?_
  intro z el eB eD eC eS hfr hlo hcs X hret hQ
  subst el eB eD eC eS
  have X : tw_X z cX6_readMark "TreasureWalk$Reader" 2 := X
  show tw_Rf z r _ σ 0 [(0, .ref (tw_zB z + 400))] []
  unfold tw_P_X6_readMark
  refine r_aload_n X dX6_readMark_0 rfl 0 rfl ?_
  refine r_bd (fun r1 hr1 => ?_)
  refine tw_c_X6_advance X dX6_readMark_1 _ tw_w828  hr1 (tw_le hfr rfl) (tw_le hlo rfl) hcs (Nat.le_of_ble_eq_true rfl) trivial ?_
  refine r_aload_n X dX6_readMark_4 rfl 0 rfl ?_
  refine r_bd (fun r2 hr2 => ?_)
  refine tw_c_X6_markAhead X dX6_readMark_5 _ tw_w963  hr2 (tw_le hfr rfl) (tw_le hlo rfl) hcs (Nat.le_of_ble_eq_true rfl) trivial ?_
  refine r_istore_n X dX6_readMark_8 rfl (by decide) (LL := fun v3 => [(1, .int v3), (0, .ref (tw_zB z + 400))]) (fun _ => rfl) (fun v3 => ?_)
  refine r_aload_n X dX6_readMark_9 rfl 1 rfl ?_
  refine tw_g6_2 (k := 400) (v := .ref (tw_zB z + 403)) X dX6_readMark_10 _ tw_w371 tw_kc400 rfl ?_
  refine tw_g2_4N (k := 403) (v := .ref (tw_zB z + 408)) X dX6_readMark_13 _ tw_w179 tw_kc403 rfl ?_
  refine r_iload_n X dX6_readMark_16 rfl 0 rfl ?_
  refine r_bd (fun r4 hr4 => ?_)
  refine tw_c_X7_get X dX6_readMark_17 _ tw_w832 tw_kc408 hr4 (tw_le hfr rfl) (tw_le hlo rfl) hcs (Nat.le_of_ble_eq_true rfl) trivial ?_
  refine r_jn (α := tw_Sg) (σJ := fun a5 => a5) (pcJ := 33) (LJ := fun a5 => [(1, .int v3), (0, .ref (tw_zB z + 400))]) (stJ := fun a5 => []) (ok := fun a5 => True) (fun a5 hoka5 => ?_) (fun j6 hj6 => ?_)
  ·
    refine r_aload_n X dX6_readMark_33 rfl 1 rfl ?_
    refine r_bd (fun r7 hr7 => ?_)
    refine tw_c_X6_advance X dX6_readMark_34 _ tw_w828  hr7 (tw_le hfr rfl) (tw_le hlo rfl) hcs (Nat.le_of_ble_eq_true rfl) trivial ?_
    refine r_aload_n X dX6_readMark_37 rfl 1 rfl ?_
    refine tw_g6_2 (k := 400) (v := .ref (tw_zB z + 403)) X dX6_readMark_38 _ tw_w371 tw_kc400 rfl ?_
    refine tw_g2_4N (k := 403) (v := .ref (tw_zB z + 408)) X dX6_readMark_41 _ tw_w179 tw_kc403 rfl ?_
    refine r_iload_n X dX6_readMark_44 rfl 0 rfl ?_
    refine r_aload_n X dX6_readMark_45 rfl 1 rfl ?_
    refine r_bd (fun r8 hr8 => ?_)
    refine tw_c_X6_takeLandSpot X dX6_readMark_46 _ tw_w967  hr8 (tw_le hfr rfl) (tw_le hlo rfl) hcs (Nat.le_of_ble_eq_true rfl) trivial ?_
    refine r_bd (fun r9 hr9 => ?_)
    refine tw_c_X7_put X dX6_readMark_49 _ tw_w972 tw_kc408 hr9 (tw_le hfr rfl) (tw_le hlo rfl) hcs (Nat.le_of_ble_eq_true rfl) trivial ?_
    refine r_aload_n X dX6_readMark_52 rfl 1 rfl ?_
    refine r_bd (fun r10 hr10 => ?_)
    refine tw_c_X6_takeSemicolon X dX6_readMark_53 _ tw_w906  hr10 (tw_le hfr rfl) (tw_le hlo rfl) hcs (Nat.le_of_ble_eq_true rfl) trivial ?_
    exact r_vret X dX6_readMark_56 hret hQ rfl
  refine r_if_eq X dX6_readMark_20 (tgt := 33) (by decide) ?_ ?_
  ·
    exact hj6 r2.2 trivial
  ·
    refine r_aload_n X dX6_readMark_23 rfl 1 rfl ?_
    refine r_bipush X dX6_readMark_24 (v := (-4 : Int32)) (by decide) ?_
    refine r_aload_n X dX6_readMark_26 rfl 1 rfl ?_
    refine tw_g6_4 (k := 400) (v := .int (r2.2 400 4)) X dX6_readMark_27 _ tw_w374 tw_kc400 rfl ?_
    refine r_bd (fun r11 hr11 => ?_)
    refine tw_c_X6_fail X dX6_readMark_30 _ tw_w897  hr11 (tw_le hfr rfl) (tw_le hlo rfl) hcs (Nat.le_of_ble_eq_true rfl) trivial ?_
    exact hj6 r11 trivial
theorem tw_c_X6_readMark {ρ : Type} {z : tw_Z} {cc : ByteArray} {own : String} {nL pc : Nat} {σ : tw_Sg} {L : List (Nat × Value)} {st : List Value} {ix : Nat} {n : Nat}  (X : tw_X z cc own nL) (d : decode cc pc = .ok (.invokevirtual ix, 3)) (i : Nat) (hi : lw_tbl[i]? = some (.methodLink own ix yX6_readMark))  {res : ρ} {E : Option ρ} {r : tw_Sg} (h : tw_P_X6_readMark n σ = some r) (h1 : 5 ≤ (tw_zR z).frames) (h2 : 110 ≤ (tw_zR z).locals) (hcs : tw_zcells z ≤ (tw_zR z).cells ∧ tw_zslots z ≤ (tw_zR z).slots) (hst : (st.map fun v => v.category).sum ≤ 8) (_ : True) (kk : tw_Rf z res E r (pc + 3) L (st)) : tw_Rf z res E σ pc L (.ref (tw_zB z + 400) :: st) := r_callV (As := []) X d (tw_m_X6_readMark  h) tw_y_X6_readMark tw_v_X6_readMark i hi rfl (tw_kd_lt tw_kc400 (by decide)) (tw_E6 tw_kc400) rfl ⟨rfl, rfl, h1, h2⟩ hcs hst rfl kk
def tw_P_X6_readTeam (n : Nat)  (σ : tw_Sg) : Option (tw_Sg) :=
tw_jn (fun (a1 : tw_Sg) =>
tw_bd (tw_P_X6_advance n a1) (fun r3 =>
tw_bd (tw_P_X6_takeLandSpot n r3) (fun r4 =>
tw_lt (tw_up r4.2 403 10 r4.1) (fun (σ5 : tw_Sg) =>
tw_bd (tw_P_X6_takeSemicolon n σ5) (fun r6 =>
some r6))))) (fun (j2 : (tw_Sg) → Option (tw_Sg)) =>
if (σ 403 10) = 0 then (j2 σ)
else (tw_bd (tw_P_X6_fail (-2 : Int32) (σ 400 4) σ) (fun r7 =>
j2 r7)))
theorem tw_y_X6_readTeam : tw_My yX6_readTeam cX6_readTeam 1 none 0 := ⟨List.mem_of_getElem? tw_w977, List.mem_of_getElem? tw_w47, by decide +kernel, by decide +kernel, by decide +kernel⟩
theorem tw_v_X6_readTeam : tw_Mv yX6_readTeam "TreasureWalk$Reader" := ⟨List.mem_of_getElem? tw_w976, List.mem_of_getElem? tw_w21, rfl⟩
set_option maxRecDepth 100000 in
set_option maxHeartbeats 4000000 in
theorem tw_m_X6_readTeam {l : Launch} {B : Nat} {D : tw_G} {C : Nat → ClassId} {S : Nat → Nat} {n : Nat}  {σ : tw_Sg}  {r : tw_Sg} (h : tw_P_X6_readTeam n σ = some r) : tw_Met l B D C S yX6_readTeam cX6_readTeam 1 none ({ frames := 4, cells := 0, slots := 0, locals := 89 } : Room) [.ref (B + 400)] σ (none) r := by
  refine tw_metOfP (tw_P_X6_readTeam n σ) r h (fun r => (none, r)) (by decide +kernel) (Nat.le_of_ble_eq_true rfl) ⟨rfl, rfl⟩ ?_
  intro z el eB eD eC eS hfr hlo hcs X hret hQ
  subst el eB eD eC eS
  have X : tw_X z cX6_readTeam "TreasureWalk$Reader" 1 := X
  show tw_Rf z r _ σ 0 [(0, .ref (tw_zB z + 400))] []
  unfold tw_P_X6_readTeam
  refine r_aload_n X dX6_readTeam_0 rfl 0 rfl ?_
  refine tw_g6_2 (k := 400) (v := .ref (tw_zB z + 403)) X dX6_readTeam_1 _ tw_w371 tw_kc400 rfl ?_
  refine tw_g2_10N (k := 403) (v := .int (σ 403 10)) X dX6_readTeam_4 _ tw_w199 tw_kc403 rfl ?_
  refine r_jn (α := tw_Sg) (σJ := fun a1 => a1) (pcJ := 20) (LJ := fun a1 => [(0, .ref (tw_zB z + 400))]) (stJ := fun a1 => []) (ok := fun a1 => True) (fun a1 hoka1 => ?_) (fun j2 hj2 => ?_)
  ·
    refine r_aload_n X dX6_readTeam_20 rfl 0 rfl ?_
    refine r_bd (fun r3 hr3 => ?_)
    refine tw_c_X6_advance X dX6_readTeam_21 _ tw_w828  hr3 (tw_le hfr rfl) (tw_le hlo rfl) hcs (Nat.le_of_ble_eq_true rfl) trivial ?_
    refine r_aload_n X dX6_readTeam_24 rfl 0 rfl ?_
    refine tw_g6_2 (k := 400) (v := .ref (tw_zB z + 403)) X dX6_readTeam_25 _ tw_w371 tw_kc400 rfl ?_
    refine r_aload_n X dX6_readTeam_28 rfl 0 rfl ?_
    refine r_bd (fun r4 hr4 => ?_)
    refine tw_c_X6_takeLandSpot X dX6_readTeam_29 _ tw_w967  hr4 (tw_le hfr rfl) (tw_le hlo rfl) hcs (Nat.le_of_ble_eq_true rfl) trivial ?_
    refine tw_s2_10N (k := 403) X dX6_readTeam_32 _ tw_w199 tw_kc403 (fun σ5 => ?_)
    refine r_aload_n X dX6_readTeam_35 rfl 0 rfl ?_
    refine r_bd (fun r6 hr6 => ?_)
    refine tw_c_X6_takeSemicolon X dX6_readTeam_36 _ tw_w906  hr6 (tw_le hfr rfl) (tw_le hlo rfl) hcs (Nat.le_of_ble_eq_true rfl) trivial ?_
    exact r_vret X dX6_readTeam_39 hret hQ rfl
  refine r_if_eq X dX6_readTeam_7 (tgt := 20) (by decide) ?_ ?_
  ·
    exact hj2 σ trivial
  ·
    refine r_aload_n X dX6_readTeam_10 rfl 0 rfl ?_
    refine r_bipush X dX6_readTeam_11 (v := (-2 : Int32)) (by decide) ?_
    refine r_aload_n X dX6_readTeam_13 rfl 0 rfl ?_
    refine tw_g6_4 (k := 400) (v := .int (σ 400 4)) X dX6_readTeam_14 _ tw_w374 tw_kc400 rfl ?_
    refine r_bd (fun r7 hr7 => ?_)
    refine tw_c_X6_fail X dX6_readTeam_17 _ tw_w897  hr7 (tw_le hfr rfl) (tw_le hlo rfl) hcs (Nat.le_of_ble_eq_true rfl) trivial ?_
    exact hj2 r7 trivial
theorem tw_c_X6_readTeam {ρ : Type} {z : tw_Z} {cc : ByteArray} {own : String} {nL pc : Nat} {σ : tw_Sg} {L : List (Nat × Value)} {st : List Value} {ix : Nat} {n : Nat}  (X : tw_X z cc own nL) (d : decode cc pc = .ok (.invokevirtual ix, 3)) (i : Nat) (hi : lw_tbl[i]? = some (.methodLink own ix yX6_readTeam))  {res : ρ} {E : Option ρ} {r : tw_Sg} (h : tw_P_X6_readTeam n σ = some r) (h1 : 5 ≤ (tw_zR z).frames) (h2 : 109 ≤ (tw_zR z).locals) (hcs : tw_zcells z ≤ (tw_zR z).cells ∧ tw_zslots z ≤ (tw_zR z).slots) (hst : (st.map fun v => v.category).sum ≤ 8) (_ : True) (kk : tw_Rf z res E r (pc + 3) L (st)) : tw_Rf z res E σ pc L (.ref (tw_zB z + 400) :: st) := r_callV (As := []) X d (tw_m_X6_readTeam  h) tw_y_X6_readTeam tw_v_X6_readTeam i hi rfl (tw_kd_lt tw_kc400 (by decide)) (tw_E6 tw_kc400) rfl ⟨rfl, rfl, h1, h2⟩ hcs hst rfl kk
def tw_P_X6_takeKnownMark (n : Nat)  (σ : tw_Sg) : Option (Int32 × tw_Sg) :=
tw_bd (tw_P_X6_markAhead σ) (fun r1 =>
tw_lt r1.1 (fun (v2 : Int32) =>
tw_bd (tw_P_X7_get 408 v2 r1.2) (fun r3 =>
tw_jn (fun (a4 : tw_Sg) =>
tw_bd (tw_P_X6_advance n a4) (fun r6 =>
some (v2, r6))) (fun (j5 : (tw_Sg) → Option (Int32 × tw_Sg)) =>
if ¬ r3 = 0 then (j5 r1.2)
else (tw_bd (tw_P_X6_fail (-5 : Int32) (r1.2 400 4) r1.2) (fun r7 =>
j5 r7))))))
theorem tw_y_X6_takeKnownMark : tw_My yX6_takeKnownMark cX6_takeKnownMark 2 (some .int) 0 := ⟨List.mem_of_getElem? tw_w990, List.mem_of_getElem? tw_w47, by decide +kernel, by decide +kernel, by decide +kernel⟩
theorem tw_v_X6_takeKnownMark : tw_Mv yX6_takeKnownMark "TreasureWalk$Reader" := ⟨List.mem_of_getElem? tw_w989, List.mem_of_getElem? tw_w24, rfl⟩
set_option maxRecDepth 100000 in
set_option maxHeartbeats 4000000 in
theorem tw_m_X6_takeKnownMark {l : Launch} {B : Nat} {D : tw_G} {C : Nat → ClassId} {S : Nat → Nat} {n : Nat}  {σ : tw_Sg}  {r : Int32 × tw_Sg} (h : tw_P_X6_takeKnownMark n σ = some r) : tw_Met l B D C S yX6_takeKnownMark cX6_takeKnownMark 2 (some .int) ({ frames := 2, cells := 0, slots := 0, locals := 43 } : Room) [.ref (B + 400)] σ (some (.int r.1)) r.2 := by
  refine tw_metOfP (tw_P_X6_takeKnownMark n σ) r h (fun r => (some (.int r.1), r.2)) (by decide +kernel) (Nat.le_of_ble_eq_true rfl) ⟨rfl, rfl⟩ ?_
  intro z el eB eD eC eS hfr hlo hcs X hret hQ
  subst el eB eD eC eS
  have X : tw_X z cX6_takeKnownMark "TreasureWalk$Reader" 2 := X
  show tw_Rf z r _ σ 0 [(0, .ref (tw_zB z + 400))] []
  unfold tw_P_X6_takeKnownMark
  refine r_aload_n X dX6_takeKnownMark_0 rfl 0 rfl ?_
  refine r_bd (fun r1 hr1 => ?_)
  refine tw_c_X6_markAhead X dX6_takeKnownMark_1 _ tw_w963  hr1 (tw_le hfr rfl) (tw_le hlo rfl) hcs (Nat.le_of_ble_eq_true rfl) trivial ?_
  refine r_istore_n X dX6_takeKnownMark_4 rfl (by decide) (LL := fun v2 => [(1, .int v2), (0, .ref (tw_zB z + 400))]) (fun _ => rfl) (fun v2 => ?_)
  refine r_aload_n X dX6_takeKnownMark_5 rfl 1 rfl ?_
  refine tw_g6_2 (k := 400) (v := .ref (tw_zB z + 403)) X dX6_takeKnownMark_6 _ tw_w371 tw_kc400 rfl ?_
  refine tw_g2_4N (k := 403) (v := .ref (tw_zB z + 408)) X dX6_takeKnownMark_9 _ tw_w179 tw_kc403 rfl ?_
  refine r_iload_n X dX6_takeKnownMark_12 rfl 0 rfl ?_
  refine r_bd (fun r3 hr3 => ?_)
  refine tw_c_X7_get X dX6_takeKnownMark_13 _ tw_w832 tw_kc408 hr3 (tw_le hfr rfl) (tw_le hlo rfl) hcs (Nat.le_of_ble_eq_true rfl) trivial ?_
  refine r_jn (α := tw_Sg) (σJ := fun a4 => a4) (pcJ := 29) (LJ := fun a4 => [(1, .int v2), (0, .ref (tw_zB z + 400))]) (stJ := fun a4 => []) (ok := fun a4 => True) (fun a4 hoka4 => ?_) (fun j5 hj5 => ?_)
  ·
    refine r_aload_n X dX6_takeKnownMark_29 rfl 1 rfl ?_
    refine r_bd (fun r6 hr6 => ?_)
    refine tw_c_X6_advance X dX6_takeKnownMark_30 _ tw_w828  hr6 (tw_le hfr rfl) (tw_le hlo rfl) hcs (Nat.le_of_ble_eq_true rfl) trivial ?_
    refine r_iload_n X dX6_takeKnownMark_33 rfl 0 rfl ?_
    exact r_iret X dX6_takeKnownMark_34 hret hQ rfl
  refine r_if_ne X dX6_takeKnownMark_16 (tgt := 29) (by decide) ?_ ?_
  ·
    exact hj5 r1.2 trivial
  ·
    refine r_aload_n X dX6_takeKnownMark_19 rfl 1 rfl ?_
    refine r_bipush X dX6_takeKnownMark_20 (v := (-5 : Int32)) (by decide) ?_
    refine r_aload_n X dX6_takeKnownMark_22 rfl 1 rfl ?_
    refine tw_g6_4 (k := 400) (v := .int (r1.2 400 4)) X dX6_takeKnownMark_23 _ tw_w374 tw_kc400 rfl ?_
    refine r_bd (fun r7 hr7 => ?_)
    refine tw_c_X6_fail X dX6_takeKnownMark_26 _ tw_w897  hr7 (tw_le hfr rfl) (tw_le hlo rfl) hcs (Nat.le_of_ble_eq_true rfl) trivial ?_
    exact hj5 r7 trivial
theorem tw_c_X6_takeKnownMark {ρ : Type} {z : tw_Z} {cc : ByteArray} {own : String} {nL pc : Nat} {σ : tw_Sg} {L : List (Nat × Value)} {st : List Value} {ix : Nat} {n : Nat}  (X : tw_X z cc own nL) (d : decode cc pc = .ok (.invokevirtual ix, 3)) (i : Nat) (hi : lw_tbl[i]? = some (.methodLink own ix yX6_takeKnownMark))  {res : ρ} {E : Option ρ} {r : Int32 × tw_Sg} (h : tw_P_X6_takeKnownMark n σ = some r) (h1 : 3 ≤ (tw_zR z).frames) (h2 : 64 ≤ (tw_zR z).locals) (hcs : tw_zcells z ≤ (tw_zR z).cells ∧ tw_zslots z ≤ (tw_zR z).slots) (hst : (st.map fun v => v.category).sum ≤ 8) (_ : True) (kk : tw_Rf z res E r.2 (pc + 3) L (.int r.1 :: st)) : tw_Rf z res E σ pc L (.ref (tw_zB z + 400) :: st) := r_callV (As := []) X d (tw_m_X6_takeKnownMark  h) tw_y_X6_takeKnownMark tw_v_X6_takeKnownMark i hi rfl (tw_kd_lt tw_kc400 (by decide)) (tw_E6 tw_kc400) rfl ⟨rfl, rfl, h1, h2⟩ hcs hst rfl kk
def tw_P_X6_takeStart (n : Nat)  (σ : tw_Sg) : Option (tw_Sg) :=
tw_lt (σ 400 4) (fun (v1 : Int32) =>
tw_bd (tw_P_X6_takeKnownMark n σ) (fun r2 =>
tw_lt r2.1 (fun (v3 : Int32) =>
tw_bd (tw_P_X1_hasStart n 416 (r2.2 416 0) v3 r2.2) (fun r4 =>
tw_jn (fun (a5 : tw_Sg) =>
tw_bd (tw_P_X1_addStart 416 (a5 416 0) v3 a5) (fun r7 =>
some r7)) (fun (j6 : (tw_Sg) → Option (tw_Sg)) =>
if r4 = 0 then (j6 r2.2)
else (tw_bd (tw_P_X6_fail (-4 : Int32) v1 r2.2) (fun r8 =>
j6 r8)))))))
theorem tw_y_X6_takeStart : tw_My yX6_takeStart cX6_takeStart 3 none 0 := ⟨List.mem_of_getElem? tw_w986, List.mem_of_getElem? tw_w47, by decide +kernel, by decide +kernel, by decide +kernel⟩
theorem tw_v_X6_takeStart : tw_Mv yX6_takeStart "TreasureWalk$Reader" := ⟨List.mem_of_getElem? tw_w985, List.mem_of_getElem? tw_w23, rfl⟩
set_option maxRecDepth 100000 in
set_option maxHeartbeats 4000000 in
theorem tw_m_X6_takeStart {l : Launch} {B : Nat} {D : tw_G} {C : Nat → ClassId} {S : Nat → Nat} {n : Nat}  {σ : tw_Sg}  {r : tw_Sg} (h : tw_P_X6_takeStart n σ = some r) : tw_Met l B D C S yX6_takeStart cX6_takeStart 3 none ({ frames := 3, cells := 0, slots := 0, locals := 66 } : Room) [.ref (B + 400)] σ (none) r := by
  refine tw_metOfP (tw_P_X6_takeStart n σ) r h (fun r => (none, r)) (by decide +kernel) (Nat.le_of_ble_eq_true rfl) ⟨rfl, rfl⟩ ?_
  intro z el eB eD eC eS hfr hlo hcs X hret hQ
  subst el eB eD eC eS
  have X : tw_X z cX6_takeStart "TreasureWalk$Reader" 3 := X
  show tw_Rf z r _ σ 0 [(0, .ref (tw_zB z + 400))] []
  unfold tw_P_X6_takeStart
  refine r_aload_n X dX6_takeStart_0 rfl 0 rfl ?_
  refine tw_g6_4 (k := 400) (v := .int (σ 400 4)) X dX6_takeStart_1 _ tw_w374 tw_kc400 rfl ?_
  refine r_istore_n X dX6_takeStart_4 rfl (by decide) (LL := fun v1 => [(1, .int v1), (0, .ref (tw_zB z + 400))]) (fun _ => rfl) (fun v1 => ?_)
  refine r_aload_n X dX6_takeStart_5 rfl 1 rfl ?_
  refine r_bd (fun r2 hr2 => ?_)
  refine tw_c_X6_takeKnownMark X dX6_takeStart_6 _ tw_w987  hr2 (tw_le hfr rfl) (tw_le hlo rfl) hcs (Nat.le_of_ble_eq_true rfl) trivial ?_
  refine r_istore_n X dX6_takeStart_9 rfl (by decide) (LL := fun v3 => [(2, .int v3), (1, .int v1), (0, .ref (tw_zB z + 400))]) (fun _ => rfl) (fun v3 => ?_)
  refine r_aload_n X dX6_takeStart_10 rfl 2 rfl ?_
  refine tw_g6_2 (k := 400) (v := .ref (tw_zB z + 403)) X dX6_takeStart_11 _ tw_w371 tw_kc400 rfl ?_
  refine tw_g2_9N (k := 403) (v := .ref (tw_zB z + 416)) X dX6_takeStart_14 _ tw_w196 tw_kc403 rfl ?_
  refine r_aload_n X dX6_takeStart_17 rfl 2 rfl ?_
  refine tw_g6_2 (k := 400) (v := .ref (tw_zB z + 403)) X dX6_takeStart_18 _ tw_w371 tw_kc400 rfl ?_
  refine tw_g2_9N (k := 403) (v := .ref (tw_zB z + 416)) X dX6_takeStart_21 _ tw_w196 tw_kc403 rfl ?_
  refine tw_g1_0N (k := 416) (v := .int (r2.2 416 0)) X dX6_takeStart_24 _ tw_w117 tw_kc416 rfl ?_
  refine r_iload_n X dX6_takeStart_27 rfl 0 rfl ?_
  refine r_bd (fun r4 hr4 => ?_)
  refine tw_c_X1_hasStart X dX6_takeStart_28 _ tw_w991 tw_kc416 hr4 (tw_le hfr rfl) (tw_le hlo rfl) hcs (Nat.le_of_ble_eq_true rfl) trivial ?_
  refine r_jn (α := tw_Sg) (σJ := fun a5 => a5) (pcJ := 41) (LJ := fun a5 => [(2, .int v3), (0, .ref (tw_zB z + 400))]) (stJ := fun a5 => []) (ok := fun a5 => True) (fun a5 hoka5 => ?_) (fun j6 hj6 => ?_)
  ·
    refine r_aload_n X dX6_takeStart_41 rfl 1 rfl ?_
    refine tw_g6_2 (k := 400) (v := .ref (tw_zB z + 403)) X dX6_takeStart_42 _ tw_w371 tw_kc400 rfl ?_
    refine tw_g2_9N (k := 403) (v := .ref (tw_zB z + 416)) X dX6_takeStart_45 _ tw_w196 tw_kc403 rfl ?_
    refine r_aload_n X dX6_takeStart_48 rfl 1 rfl ?_
    refine tw_g6_2 (k := 400) (v := .ref (tw_zB z + 403)) X dX6_takeStart_49 _ tw_w371 tw_kc400 rfl ?_
    refine tw_g2_9N (k := 403) (v := .ref (tw_zB z + 416)) X dX6_takeStart_52 _ tw_w196 tw_kc403 rfl ?_
    refine tw_g1_0N (k := 416) (v := .int (a5 416 0)) X dX6_takeStart_55 _ tw_w117 tw_kc416 rfl ?_
    refine r_iload_n X dX6_takeStart_58 rfl 0 rfl ?_
    refine r_bd (fun r7 hr7 => ?_)
    refine tw_c_X1_addStart X dX6_takeStart_59 _ tw_w996 tw_kc416 hr7 (tw_le hfr rfl) (tw_le hlo rfl) hcs (Nat.le_of_ble_eq_true rfl) trivial ?_
    exact r_vret X dX6_takeStart_62 hret hQ rfl
  refine r_if_eq X dX6_takeStart_31 (tgt := 41) (by decide) ?_ ?_
  ·
    exact tw_Rf.sub [0, 2] rfl (hj6 r2.2 trivial)
  ·
    refine r_aload_n X dX6_takeStart_34 rfl 2 rfl ?_
    refine r_bipush X dX6_takeStart_35 (v := (-4 : Int32)) (by decide) ?_
    refine r_iload_n X dX6_takeStart_37 rfl 1 rfl ?_
    refine r_bd (fun r8 hr8 => ?_)
    refine tw_c_X6_fail X dX6_takeStart_38 _ tw_w897  hr8 (tw_le hfr rfl) (tw_le hlo rfl) hcs (Nat.le_of_ble_eq_true rfl) trivial ?_
    exact tw_Rf.sub [0, 2] rfl (hj6 r8 trivial)
theorem tw_c_X6_takeStart {ρ : Type} {z : tw_Z} {cc : ByteArray} {own : String} {nL pc : Nat} {σ : tw_Sg} {L : List (Nat × Value)} {st : List Value} {ix : Nat} {n : Nat}  (X : tw_X z cc own nL) (d : decode cc pc = .ok (.invokevirtual ix, 3)) (i : Nat) (hi : lw_tbl[i]? = some (.methodLink own ix yX6_takeStart))  {res : ρ} {E : Option ρ} {r : tw_Sg} (h : tw_P_X6_takeStart n σ = some r) (h1 : 4 ≤ (tw_zR z).frames) (h2 : 88 ≤ (tw_zR z).locals) (hcs : tw_zcells z ≤ (tw_zR z).cells ∧ tw_zslots z ≤ (tw_zR z).slots) (hst : (st.map fun v => v.category).sum ≤ 8) (_ : True) (kk : tw_Rf z res E r (pc + 3) L (st)) : tw_Rf z res E σ pc L (.ref (tw_zB z + 400) :: st) := r_callV (As := []) X d (tw_m_X6_takeStart  h) tw_y_X6_takeStart tw_v_X6_takeStart i hi rfl (tw_kd_lt tw_kc400 (by decide)) (tw_E6 tw_kc400) rfl ⟨rfl, rfl, h1, h2⟩ hcs hst rfl kk
def tw_P_X6_isLegAhead (n : Nat)  (σ : tw_Sg) : Option (Int32) :=
tw_bd (tw_P_X6_isWord n 9 σ) (fun r1 =>
tw_jn (fun (a2 : Int32) =>
tw_ck (tw_01 a2) (some a2)) (fun (j3 : (Int32) → Option (Int32)) =>
tw_jn (fun (a4 : Unit) =>
j3 (1 : Int32)) (fun (j5 : (Unit) → Option (Int32)) =>
if ¬ r1 = 0 then (j5 ())
else (tw_bd (tw_P_X6_isWord n 10 σ) (fun r6 =>
if ¬ r6 = 0 then (j5 ())
else (tw_bd (tw_P_X6_isWord n 11 σ) (fun r7 =>
if r7 = 0 then (j3 (0 : Int32))
else (j5 ()))))))))
theorem tw_y_X6_isLegAhead : tw_My yX6_isLegAhead cX6_isLegAhead 1 (some .boolean) 0 := ⟨List.mem_of_getElem? tw_w1005, List.mem_of_getElem? tw_w47, by decide +kernel, by decide +kernel, by decide +kernel⟩
theorem tw_v_X6_isLegAhead : tw_Mv yX6_isLegAhead "TreasureWalk$Reader" := ⟨List.mem_of_getElem? tw_w1004, List.mem_of_getElem? tw_w25, rfl⟩
set_option maxRecDepth 100000 in
set_option maxHeartbeats 4000000 in
theorem tw_m_X6_isLegAhead {l : Launch} {B : Nat} {D : tw_G} {C : Nat → ClassId} {S : Nat → Nat} {n : Nat}  {σ : tw_Sg}  {r : Int32} (h : tw_P_X6_isLegAhead n σ = some r) : tw_Met l B D C S yX6_isLegAhead cX6_isLegAhead 1 (some .boolean) ({ frames := 7, cells := 0, slots := 0, locals := 142 } : Room) [.ref (B + 400)] σ (some (.int r)) σ := by
  refine tw_metOfP (tw_P_X6_isLegAhead n σ) r h (fun r => (some (.int r), σ)) (by decide +kernel) (Nat.le_of_ble_eq_true rfl) ⟨rfl, rfl⟩ ?_
  intro z el eB eD eC eS hfr hlo hcs X hret hQ
  subst el eB eD eC eS
  have X : tw_X z cX6_isLegAhead "TreasureWalk$Reader" 1 := X
  show tw_Rf z r _ σ 0 [(0, .ref (tw_zB z + 400))] []
  unfold tw_P_X6_isLegAhead
  refine r_aload_n X dX6_isLegAhead_0 rfl 0 rfl ?_
  refine r_ldcS X dX6_isLegAhead_1 (j := 9) tw_l_R_198 ?_
  refine r_bd (fun r1 hr1 => ?_)
  refine tw_c_X6_isWord X dX6_isLegAhead_3 _ tw_w845 (by decide) hr1 (tw_le hfr rfl) (tw_le hlo rfl) hcs (Nat.le_of_ble_eq_true rfl) trivial ?_
  refine r_jn (α := Int32) (σJ := fun a2 => σ) (pcJ := 32) (LJ := fun a2 => []) (stJ := fun a2 => [.int a2]) (ok := fun a2 => True) (fun a2 hoka2 => ?_) (fun j3 hj3 => ?_)
  ·
    exact r_zret X dX6_isLegAhead_32 hret hQ rfl
  refine r_jn (α := Unit) (σJ := fun a4 => σ) (pcJ := 27) (LJ := fun a4 => []) (stJ := fun a4 => []) (ok := fun a4 => True) (fun a4 hoka4 => ?_) (fun j5 hj5 => ?_)
  ·
    refine r_iconst X dX6_isLegAhead_27 (v := (1 : Int32)) (by decide) ?_
    refine r_goto X dX6_isLegAhead_28 (tgt := 32) (by decide) ?_
    exact hj3 (1 : Int32) trivial
  refine r_if_ne X dX6_isLegAhead_6 (tgt := 27) (by decide) ?_ ?_
  ·
    exact tw_Rf.sub [] rfl (hj5 () trivial)
  ·
    refine r_aload_n X dX6_isLegAhead_9 rfl 0 rfl ?_
    refine r_ldcS X dX6_isLegAhead_10 (j := 10) tw_l_R_200 ?_
    refine r_bd (fun r6 hr6 => ?_)
    refine tw_c_X6_isWord X dX6_isLegAhead_12 _ tw_w845 (by decide) hr6 (tw_le hfr rfl) (tw_le hlo rfl) hcs (Nat.le_of_ble_eq_true rfl) trivial ?_
    refine r_if_ne X dX6_isLegAhead_15 (tgt := 27) (by decide) ?_ ?_
    ·
      exact tw_Rf.sub [] rfl (hj5 () trivial)
    ·
      refine r_aload_n X dX6_isLegAhead_18 rfl 0 rfl ?_
      refine r_ldcS X dX6_isLegAhead_19 (j := 11) tw_l_R_202 ?_
      refine r_bd (fun r7 hr7 => ?_)
      refine tw_c_X6_isWord X dX6_isLegAhead_21 _ tw_w845 (by decide) hr7 (tw_le hfr rfl) (tw_le hlo rfl) hcs (Nat.le_of_ble_eq_true rfl) trivial ?_
      refine r_if_eq X dX6_isLegAhead_24 (tgt := 31) (by decide) ?_ ?_
      ·
        refine r_iconst X dX6_isLegAhead_31 (v := (0 : Int32)) (by decide) ?_
        exact tw_Rf.sub [] rfl (hj3 (0 : Int32) trivial)
      ·
        exact tw_Rf.sub [] rfl (hj5 () trivial)
theorem tw_c_X6_isLegAhead {ρ : Type} {z : tw_Z} {cc : ByteArray} {own : String} {nL pc : Nat} {σ : tw_Sg} {L : List (Nat × Value)} {st : List Value} {ix : Nat} {n : Nat}  (X : tw_X z cc own nL) (d : decode cc pc = .ok (.invokevirtual ix, 3)) (i : Nat) (hi : lw_tbl[i]? = some (.methodLink own ix yX6_isLegAhead))  {res : ρ} {E : Option ρ} {r : Int32} (h : tw_P_X6_isLegAhead n σ = some r) (h1 : 8 ≤ (tw_zR z).frames) (h2 : 162 ≤ (tw_zR z).locals) (hcs : tw_zcells z ≤ (tw_zR z).cells ∧ tw_zslots z ≤ (tw_zR z).slots) (hst : (st.map fun v => v.category).sum ≤ 8) (_ : True) (kk : tw_Rf z res E σ (pc + 3) L (.int r :: st)) : tw_Rf z res E σ pc L (.ref (tw_zB z + 400) :: st) := r_callV (As := []) X d (tw_m_X6_isLegAhead  h) tw_y_X6_isLegAhead tw_v_X6_isLegAhead i hi rfl (tw_kd_lt tw_kc400 (by decide)) (tw_E6 tw_kc400) rfl ⟨rfl, rfl, h1, h2⟩ hcs hst rfl kk
def tw_P_X6_takeBearing (n : Nat)  (σ : tw_Sg) : Option (Int32 × tw_Sg) :=
tw_bd (tw_P_X6_isWord n 13 σ) (fun r1 =>
tw_jn (fun (a2 : Int32) =>
tw_lt a2 (fun (v4 : Int32) =>
tw_jn (fun (a5 : tw_Sg) =>
tw_bd (tw_P_X6_advance n a5) (fun r7 =>
some (v4, r7))) (fun (j6 : (tw_Sg) → Option (Int32 × tw_Sg)) =>
if 0 ≤ v4 then (j6 σ)
else (tw_bd (tw_P_X6_fail (-2 : Int32) (σ 400 4) σ) (fun r8 =>
j6 r8))))) (fun (j3 : (Int32) → Option (Int32 × tw_Sg)) =>
if r1 = 0 then (tw_bd (tw_P_X6_isWord n 14 σ) (fun r9 =>
if r9 = 0 then (tw_bd (tw_P_X6_isWord n 15 σ) (fun r10 =>
if r10 = 0 then (tw_bd (tw_P_X6_isWord n 16 σ) (fun r11 =>
if r11 = 0 then (tw_bd (tw_P_X6_isWord n 17 σ) (fun r12 =>
if r12 = 0 then (tw_bd (tw_P_X6_isWord n 18 σ) (fun r13 =>
if r13 = 0 then (tw_bd (tw_P_X6_isWord n 19 σ) (fun r14 =>
if r14 = 0 then (tw_bd (tw_P_X6_isWord n 20 σ) (fun r15 =>
if r15 = 0 then (j3 (-1 : Int32))
else (j3 (7 : Int32))))
else (j3 (6 : Int32))))
else (j3 (5 : Int32))))
else (j3 (4 : Int32))))
else (j3 (3 : Int32))))
else (j3 (2 : Int32))))
else (j3 (1 : Int32))))
else (j3 (0 : Int32))))
theorem tw_y_X6_takeBearing : tw_My yX6_takeBearing cX6_takeBearing 2 (some .int) 0 := ⟨List.mem_of_getElem? tw_w1016, List.mem_of_getElem? tw_w47, by decide +kernel, by decide +kernel, by decide +kernel⟩
theorem tw_v_X6_takeBearing : tw_Mv yX6_takeBearing "TreasureWalk$Reader" := ⟨List.mem_of_getElem? tw_w1015, List.mem_of_getElem? tw_w27, rfl⟩
set_option maxRecDepth 100000 in
set_option maxHeartbeats 4000000 in
theorem tw_m_X6_takeBearing {l : Launch} {B : Nat} {D : tw_G} {C : Nat → ClassId} {S : Nat → Nat} {n : Nat}  {σ : tw_Sg}  {r : Int32 × tw_Sg} (h : tw_P_X6_takeBearing n σ = some r) : tw_Met l B D C S yX6_takeBearing cX6_takeBearing 2 (some .int) ({ frames := 7, cells := 0, slots := 0, locals := 142 } : Room) [.ref (B + 400)] σ (some (.int r.1)) r.2 := by
  refine tw_metOfP (tw_P_X6_takeBearing n σ) r h (fun r => (some (.int r.1), r.2)) (by decide +kernel) (Nat.le_of_ble_eq_true rfl) ⟨rfl, rfl⟩ ?_
  intro z el eB eD eC eS hfr hlo hcs X hret hQ
  subst el eB eD eC eS
  have X : tw_X z cX6_takeBearing "TreasureWalk$Reader" 2 := X
  show tw_Rf z r _ σ 0 [(0, .ref (tw_zB z + 400))] []
  unfold tw_P_X6_takeBearing
  refine r_aload_n X dX6_takeBearing_0 rfl 0 rfl ?_
  refine r_ldcS X dX6_takeBearing_1 (j := 13) tw_l_R_244 ?_
  refine r_bd (fun r1 hr1 => ?_)
  refine tw_c_X6_isWord X dX6_takeBearing_3 _ tw_w845 (by decide) hr1 (tw_le hfr rfl) (tw_le hlo rfl) hcs (Nat.le_of_ble_eq_true rfl) trivial ?_
  refine r_jn (α := Int32) (σJ := fun a2 => σ) (pcJ := 109) (LJ := fun a2 => [(0, .ref (tw_zB z + 400))]) (stJ := fun a2 => [.int a2]) (ok := fun a2 => True) (fun a2 hoka2 => ?_) (fun j3 hj3 => ?_)
  ·
    refine r_istore_n X dX6_takeBearing_109 rfl (by decide) (LL := fun v4 => [(1, .int v4), (0, .ref (tw_zB z + 400))]) (fun _ => rfl) (fun v4 => ?_)
    refine r_iload_n X dX6_takeBearing_110 rfl 0 rfl ?_
    refine r_jn (α := tw_Sg) (σJ := fun a5 => a5) (pcJ := 124) (LJ := fun a5 => [(1, .int v4), (0, .ref (tw_zB z + 400))]) (stJ := fun a5 => []) (ok := fun a5 => True) (fun a5 hoka5 => ?_) (fun j6 hj6 => ?_)
    ·
      refine r_aload_n X dX6_takeBearing_124 rfl 1 rfl ?_
      refine r_bd (fun r7 hr7 => ?_)
      refine tw_c_X6_advance X dX6_takeBearing_125 _ tw_w828  hr7 (tw_le hfr rfl) (tw_le hlo rfl) hcs (Nat.le_of_ble_eq_true rfl) trivial ?_
      refine r_iload_n X dX6_takeBearing_128 rfl 0 rfl ?_
      exact r_iret X dX6_takeBearing_129 hret hQ rfl
    refine r_if_ge X dX6_takeBearing_111 (tgt := 124) (by decide) ?_ ?_
    ·
      exact hj6 σ trivial
    ·
      refine r_aload_n X dX6_takeBearing_114 rfl 1 rfl ?_
      refine r_bipush X dX6_takeBearing_115 (v := (-2 : Int32)) (by decide) ?_
      refine r_aload_n X dX6_takeBearing_117 rfl 1 rfl ?_
      refine tw_g6_4 (k := 400) (v := .int (σ 400 4)) X dX6_takeBearing_118 _ tw_w374 tw_kc400 rfl ?_
      refine r_bd (fun r8 hr8 => ?_)
      refine tw_c_X6_fail X dX6_takeBearing_121 _ tw_w897  hr8 (tw_le hfr rfl) (tw_le hlo rfl) hcs (Nat.le_of_ble_eq_true rfl) trivial ?_
      exact hj6 r8 trivial
  refine r_if_eq X dX6_takeBearing_6 (tgt := 13) (by decide) ?_ ?_
  ·
    refine r_aload_n X dX6_takeBearing_13 rfl 0 rfl ?_
    refine r_ldcS X dX6_takeBearing_14 (j := 14) tw_l_R_246 ?_
    refine r_bd (fun r9 hr9 => ?_)
    refine tw_c_X6_isWord X dX6_takeBearing_16 _ tw_w845 (by decide) hr9 (tw_le hfr rfl) (tw_le hlo rfl) hcs (Nat.le_of_ble_eq_true rfl) trivial ?_
    refine r_if_eq X dX6_takeBearing_19 (tgt := 26) (by decide) ?_ ?_
    ·
      refine r_aload_n X dX6_takeBearing_26 rfl 0 rfl ?_
      refine r_ldcS X dX6_takeBearing_27 (j := 15) tw_l_R_248 ?_
      refine r_bd (fun r10 hr10 => ?_)
      refine tw_c_X6_isWord X dX6_takeBearing_29 _ tw_w845 (by decide) hr10 (tw_le hfr rfl) (tw_le hlo rfl) hcs (Nat.le_of_ble_eq_true rfl) trivial ?_
      refine r_if_eq X dX6_takeBearing_32 (tgt := 39) (by decide) ?_ ?_
      ·
        refine r_aload_n X dX6_takeBearing_39 rfl 0 rfl ?_
        refine r_ldcS X dX6_takeBearing_40 (j := 16) tw_l_R_250 ?_
        refine r_bd (fun r11 hr11 => ?_)
        refine tw_c_X6_isWord X dX6_takeBearing_42 _ tw_w845 (by decide) hr11 (tw_le hfr rfl) (tw_le hlo rfl) hcs (Nat.le_of_ble_eq_true rfl) trivial ?_
        refine r_if_eq X dX6_takeBearing_45 (tgt := 52) (by decide) ?_ ?_
        ·
          refine r_aload_n X dX6_takeBearing_52 rfl 0 rfl ?_
          refine r_ldcS X dX6_takeBearing_53 (j := 17) tw_l_R_252 ?_
          refine r_bd (fun r12 hr12 => ?_)
          refine tw_c_X6_isWord X dX6_takeBearing_55 _ tw_w845 (by decide) hr12 (tw_le hfr rfl) (tw_le hlo rfl) hcs (Nat.le_of_ble_eq_true rfl) trivial ?_
          refine r_if_eq X dX6_takeBearing_58 (tgt := 65) (by decide) ?_ ?_
          ·
            refine r_aload_n X dX6_takeBearing_65 rfl 0 rfl ?_
            refine r_ldcS X dX6_takeBearing_66 (j := 18) tw_l_R_254 ?_
            refine r_bd (fun r13 hr13 => ?_)
            refine tw_c_X6_isWord X dX6_takeBearing_68 _ tw_w845 (by decide) hr13 (tw_le hfr rfl) (tw_le hlo rfl) hcs (Nat.le_of_ble_eq_true rfl) trivial ?_
            refine r_if_eq X dX6_takeBearing_71 (tgt := 78) (by decide) ?_ ?_
            ·
              refine r_aload_n X dX6_takeBearing_78 rfl 0 rfl ?_
              refine r_ldcSw X dX6_takeBearing_79 (j := 19) tw_l_R_256 ?_
              refine r_bd (fun r14 hr14 => ?_)
              refine tw_c_X6_isWord X dX6_takeBearing_82 _ tw_w845 (by decide) hr14 (tw_le hfr rfl) (tw_le hlo rfl) hcs (Nat.le_of_ble_eq_true rfl) trivial ?_
              refine r_if_eq X dX6_takeBearing_85 (tgt := 93) (by decide) ?_ ?_
              ·
                refine r_aload_n X dX6_takeBearing_93 rfl 0 rfl ?_
                refine r_ldcSw X dX6_takeBearing_94 (j := 20) tw_l_R_258 ?_
                refine r_bd (fun r15 hr15 => ?_)
                refine tw_c_X6_isWord X dX6_takeBearing_97 _ tw_w845 (by decide) hr15 (tw_le hfr rfl) (tw_le hlo rfl) hcs (Nat.le_of_ble_eq_true rfl) trivial ?_
                refine r_if_eq X dX6_takeBearing_100 (tgt := 108) (by decide) ?_ ?_
                ·
                  refine r_iconst X dX6_takeBearing_108 (v := (-1 : Int32)) (by decide) ?_
                  exact hj3 (-1 : Int32) trivial
                ·
                  refine r_bipush X dX6_takeBearing_103 (v := (7 : Int32)) (by decide) ?_
                  refine r_goto X dX6_takeBearing_105 (tgt := 109) (by decide) ?_
                  exact hj3 (7 : Int32) trivial
              ·
                refine r_bipush X dX6_takeBearing_88 (v := (6 : Int32)) (by decide) ?_
                refine r_goto X dX6_takeBearing_90 (tgt := 109) (by decide) ?_
                exact hj3 (6 : Int32) trivial
            ·
              refine r_iconst X dX6_takeBearing_74 (v := (5 : Int32)) (by decide) ?_
              refine r_goto X dX6_takeBearing_75 (tgt := 109) (by decide) ?_
              exact hj3 (5 : Int32) trivial
          ·
            refine r_iconst X dX6_takeBearing_61 (v := (4 : Int32)) (by decide) ?_
            refine r_goto X dX6_takeBearing_62 (tgt := 109) (by decide) ?_
            exact hj3 (4 : Int32) trivial
        ·
          refine r_iconst X dX6_takeBearing_48 (v := (3 : Int32)) (by decide) ?_
          refine r_goto X dX6_takeBearing_49 (tgt := 109) (by decide) ?_
          exact hj3 (3 : Int32) trivial
      ·
        refine r_iconst X dX6_takeBearing_35 (v := (2 : Int32)) (by decide) ?_
        refine r_goto X dX6_takeBearing_36 (tgt := 109) (by decide) ?_
        exact hj3 (2 : Int32) trivial
    ·
      refine r_iconst X dX6_takeBearing_22 (v := (1 : Int32)) (by decide) ?_
      refine r_goto X dX6_takeBearing_23 (tgt := 109) (by decide) ?_
      exact hj3 (1 : Int32) trivial
  ·
    refine r_iconst X dX6_takeBearing_9 (v := (0 : Int32)) (by decide) ?_
    refine r_goto X dX6_takeBearing_10 (tgt := 109) (by decide) ?_
    exact hj3 (0 : Int32) trivial
theorem tw_c_X6_takeBearing {ρ : Type} {z : tw_Z} {cc : ByteArray} {own : String} {nL pc : Nat} {σ : tw_Sg} {L : List (Nat × Value)} {st : List Value} {ix : Nat} {n : Nat}  (X : tw_X z cc own nL) (d : decode cc pc = .ok (.invokevirtual ix, 3)) (i : Nat) (hi : lw_tbl[i]? = some (.methodLink own ix yX6_takeBearing))  {res : ρ} {E : Option ρ} {r : Int32 × tw_Sg} (h : tw_P_X6_takeBearing n σ = some r) (h1 : 8 ≤ (tw_zR z).frames) (h2 : 163 ≤ (tw_zR z).locals) (hcs : tw_zcells z ≤ (tw_zR z).cells ∧ tw_zslots z ≤ (tw_zR z).slots) (hst : (st.map fun v => v.category).sum ≤ 8) (_ : True) (kk : tw_Rf z res E r.2 (pc + 3) L (.int r.1 :: st)) : tw_Rf z res E σ pc L (.ref (tw_zB z + 400) :: st) := r_callV (As := []) X d (tw_m_X6_takeBearing  h) tw_y_X6_takeBearing tw_v_X6_takeBearing i hi rfl (tw_kd_lt tw_kc400 (by decide)) (tw_E6 tw_kc400) rfl ⟨rfl, rfl, h1, h2⟩ hcs hst rfl kk
def tw_P_X6_readLeg (n : Nat)  (σ : tw_Sg) : Option (tw_Sg) :=
tw_bd (tw_P_X7_get 423 (σ 416 0) σ) (fun r1 =>
tw_lt r1 (fun (v2 : Int32) =>
tw_jn (fun (a3 : tw_Sg) =>
tw_lt (((a3 416 0) * (8 : Int32)) + v2) (fun (v5 : Int32) =>
tw_bd (tw_P_X6_isWord n 9 a3) (fun r6 =>
tw_jn (fun (a7 : Int32) =>
tw_lt a7 (fun (v9 : Int32) =>
tw_bd (tw_P_X6_advance n a3) (fun r10 =>
tw_jn (fun (a11 : Int32 × tw_Sg) =>
tw_lt a11.1 (fun (v13 : Int32) =>
tw_jn (fun (a14 : Int32 × tw_Sg) =>
tw_lt a14.1 (fun (v16 : Int32) =>
tw_bd (tw_P_X6_takeBearing n a14.2) (fun r17 =>
tw_lt r17.1 (fun (v18 : Int32) =>
tw_lt (0 : Int32) (fun (v19 : Int32) =>
tw_jn (fun (a20 : Int32 × tw_Sg) =>
tw_bd (tw_P_X7_put 425 v5 v9 a20.2) (fun r22 =>
tw_bd (tw_P_X7_put 427 v5 v18 r22) (fun r23 =>
tw_bd (tw_P_X7_put 433 v5 v16 r23) (fun r24 =>
tw_bd (tw_P_X7_put 429 v5 (if (0 : Int32) < (v13 - a20.1) then (v13 - a20.1) else (0 : Int32)) r24) (fun r25 =>
tw_jn (fun (a26 : Int32) =>
tw_bd (tw_P_X7_put 431 v5 a26 r25) (fun r28 =>
tw_bd (tw_P_X7_put 423 (r28 416 0) (v2 + (1 : Int32)) r28) (fun r29 =>
some r29))) (fun (j27 : (Int32) → Option (tw_Sg)) =>
if ¬ v9 = 0 then (if ¬ v9 = (1 : Int32) then (j27 (59 : Int32))
else (j27 (60 : Int32)))
else (j27 (v13 + a20.1)))))))) (fun (j21 : (Int32 × tw_Sg) → Option (tw_Sg)) =>
if ¬ v9 = 0 then (j21 (v19, r17.2))
else (tw_bd (tw_P_X6_isWord n 12 r17.2) (fun r30 =>
if r30 = 0 then (j21 (v19, r17.2))
else (tw_bd (tw_P_X6_advance n r17.2) (fun r31 =>
tw_bd (tw_P_X6_takeNumber n (0 : Int32) (5 : Int32) r31) (fun r32 =>
tw_lt r32.1 (fun (v33 : Int32) =>
j21 (v33, r32.2))))))))))))) (fun (j15 : (Int32 × tw_Sg) → Option (tw_Sg)) =>
if ¬ v9 = (1 : Int32) then (j15 ((0 : Int32), a11.2))
else (tw_bd (tw_P_X6_takeKnownMark n a11.2) (fun r34 =>
tw_bd (tw_P_X7_get 408 r34.1 r34.2) (fun r35 =>
j15 (r35, r34.2))))))) (fun (j12 : (Int32 × tw_Sg) → Option (tw_Sg)) =>
if ¬ v9 = 0 then (j12 ((0 : Int32), r10))
else (tw_bd (tw_P_X6_takeNumber n (0 : Int32) (30 : Int32) r10) (fun r36 =>
j12 (r36.1, r36.2))))))) (fun (j8 : (Int32) → Option (tw_Sg)) =>
if r6 = 0 then (tw_bd (tw_P_X6_isWord n 10 a3) (fun r37 =>
if r37 = 0 then (j8 (2 : Int32))
else (j8 (1 : Int32))))
else (j8 (0 : Int32)))))) (fun (j4 : (tw_Sg) → Option (tw_Sg)) =>
if v2 < (8 : Int32) then (j4 σ)
else (tw_bd (tw_P_X6_fail (-6 : Int32) (σ 400 4) σ) (fun r38 =>
j4 r38)))))
theorem tw_y_X6_readLeg : tw_My yX6_readLeg cX6_readLeg 9 none 0 := ⟨List.mem_of_getElem? tw_w1012, List.mem_of_getElem? tw_w47, by decide +kernel, by decide +kernel, by decide +kernel⟩
theorem tw_v_X6_readLeg : tw_Mv yX6_readLeg "TreasureWalk$Reader" := ⟨List.mem_of_getElem? tw_w1011, List.mem_of_getElem? tw_w26, rfl⟩
set_option maxRecDepth 100000 in
set_option maxHeartbeats 4000000 in
theorem tw_m_X6_readLeg {l : Launch} {B : Nat} {D : tw_G} {C : Nat → ClassId} {S : Nat → Nat} {n : Nat}  {σ : tw_Sg}  {r : tw_Sg} (h : tw_P_X6_readLeg n σ = some r) : tw_Met l B D C S yX6_readLeg cX6_readLeg 9 none ({ frames := 8, cells := 0, slots := 0, locals := 163 } : Room) [.ref (B + 400)] σ (none) r := by
  refine tw_metOfP (tw_P_X6_readLeg n σ) r h (fun r => (none, r)) (by decide +kernel) (Nat.le_of_ble_eq_true rfl) ⟨rfl, rfl⟩ ?_
  intro z el eB eD eC eS hfr hlo hcs X hret hQ
  subst el eB eD eC eS
  have X : tw_X z cX6_readLeg "TreasureWalk$Reader" 9 := X
  show tw_Rf z r _ σ 0 [(0, .ref (tw_zB z + 400))] []
  unfold tw_P_X6_readLeg
  refine r_aload_n X dX6_readLeg_0 rfl 0 rfl ?_
  refine tw_g6_2 (k := 400) (v := .ref (tw_zB z + 403)) X dX6_readLeg_1 _ tw_w371 tw_kc400 rfl ?_
  refine tw_g2_9N (k := 403) (v := .ref (tw_zB z + 416)) X dX6_readLeg_4 _ tw_w196 tw_kc403 rfl ?_
  refine r_astore_n X dX6_readLeg_7 rfl (by decide) (L' := [(1, .ref (tw_zB z + 416)), (0, .ref (tw_zB z + 400))]) rfl ?_
  refine r_aload_n X dX6_readLeg_8 rfl 0 rfl ?_
  refine tw_g1_4N (k := 416) (v := .ref (tw_zB z + 423)) X dX6_readLeg_9 _ tw_w127 tw_kc416 rfl ?_
  refine r_aload_n X dX6_readLeg_12 rfl 0 rfl ?_
  refine tw_g1_0N (k := 416) (v := .int (σ 416 0)) X dX6_readLeg_13 _ tw_w117 tw_kc416 rfl ?_
  refine r_bd (fun r1 hr1 => ?_)
  refine tw_c_X7_get X dX6_readLeg_16 _ tw_w832 tw_kc423 hr1 (tw_le hfr rfl) (tw_le hlo rfl) hcs (Nat.le_of_ble_eq_true rfl) trivial ?_
  refine r_istore_n X dX6_readLeg_19 rfl (by decide) (LL := fun v2 => [(2, .int v2), (1, .ref (tw_zB z + 416)), (0, .ref (tw_zB z + 400))]) (fun _ => rfl) (fun v2 => ?_)
  refine r_iload_n X dX6_readLeg_20 rfl 0 rfl ?_
  refine r_bipush X dX6_readLeg_21 (v := (8 : Int32)) (by decide) ?_
  refine r_jn (α := tw_Sg) (σJ := fun a3 => a3) (pcJ := 36) (LJ := fun a3 => [(2, .int v2), (1, .ref (tw_zB z + 416)), (0, .ref (tw_zB z + 400))]) (stJ := fun a3 => []) (ok := fun a3 => True) (fun a3 hoka3 => ?_) (fun j4 hj4 => ?_)
  ·
    refine r_aload_n X dX6_readLeg_36 rfl 1 rfl ?_
    refine tw_g1_0N (k := 416) (v := .int (a3 416 0)) X dX6_readLeg_37 _ tw_w117 tw_kc416 rfl ?_
    refine r_bipush X dX6_readLeg_40 (v := (8 : Int32)) (by decide) ?_
    refine r_imul X dX6_readLeg_42 ?_
    refine r_iload_n X dX6_readLeg_43 rfl 0 rfl ?_
    refine r_iadd X dX6_readLeg_44 ?_
    refine r_istore_n X dX6_readLeg_45 rfl (by decide) (LL := fun v5 => [(3, .int v5), (2, .int v2), (1, .ref (tw_zB z + 416)), (0, .ref (tw_zB z + 400))]) (fun _ => rfl) (fun v5 => ?_)
    refine r_aload_n X dX6_readLeg_46 rfl 3 rfl ?_
    refine r_ldcS X dX6_readLeg_47 (j := 9) tw_l_R_198 ?_
    refine r_bd (fun r6 hr6 => ?_)
    refine tw_c_X6_isWord X dX6_readLeg_49 _ tw_w845 (by decide) hr6 (tw_le hfr rfl) (tw_le hlo rfl) hcs (Nat.le_of_ble_eq_true rfl) trivial ?_
    refine r_jn (α := Int32) (σJ := fun a7 => a3) (pcJ := 73) (LJ := fun a7 => [(3, .int v5), (2, .int v2), (1, .ref (tw_zB z + 416)), (0, .ref (tw_zB z + 400))]) (stJ := fun a7 => [.int a7]) (ok := fun a7 => True) (fun a7 hoka7 => ?_) (fun j8 hj8 => ?_)
    ·
      refine r_istore X dX6_readLeg_73 (by decide) (LL := fun v9 => [(4, .int v9), (3, .int v5), (2, .int v2), (1, .ref (tw_zB z + 416)), (0, .ref (tw_zB z + 400))]) (fun _ => rfl) (fun v9 => ?_)
      refine r_aload_n X dX6_readLeg_75 rfl 4 rfl ?_
      refine r_bd (fun r10 hr10 => ?_)
      refine tw_c_X6_advance X dX6_readLeg_76 _ tw_w828  hr10 (tw_le hfr rfl) (tw_le hlo rfl) hcs (Nat.le_of_ble_eq_true rfl) trivial ?_
      refine r_iload X dX6_readLeg_79 0 rfl ?_
      refine r_jn (α := Int32 × tw_Sg) (σJ := fun a11 => a11.2) (pcJ := 95) (LJ := fun a11 => [(4, .int v9), (3, .int v5), (2, .int v2), (1, .ref (tw_zB z + 416)), (0, .ref (tw_zB z + 400))]) (stJ := fun a11 => [.int a11.1]) (ok := fun a11 => True) (fun a11 hoka11 => ?_) (fun j12 hj12 => ?_)
      ·
        refine r_istore X dX6_readLeg_95 (by decide) (LL := fun v13 => [(5, .int v13), (4, .int v9), (3, .int v5), (2, .int v2), (1, .ref (tw_zB z + 416)), (0, .ref (tw_zB z + 400))]) (fun _ => rfl) (fun v13 => ?_)
        refine r_iload X dX6_readLeg_97 1 rfl ?_
        refine r_iconst X dX6_readLeg_99 (v := (1 : Int32)) (by decide) ?_
        refine r_jn (α := Int32 × tw_Sg) (σJ := fun a14 => a14.2) (pcJ := 121) (LJ := fun a14 => [(5, .int v13), (4, .int v9), (3, .int v5), (2, .int v2), (1, .ref (tw_zB z + 416)), (0, .ref (tw_zB z + 400))]) (stJ := fun a14 => [.int a14.1]) (ok := fun a14 => True) (fun a14 hoka14 => ?_) (fun j15 hj15 => ?_)
        ·
          refine r_istore X dX6_readLeg_121 (by decide) (LL := fun v16 => [(6, .int v16), (5, .int v13), (4, .int v9), (3, .int v5), (2, .int v2), (1, .ref (tw_zB z + 416)), (0, .ref (tw_zB z + 400))]) (fun _ => rfl) (fun v16 => ?_)
          refine r_aload_n X dX6_readLeg_123 rfl 6 rfl ?_
          refine r_bd (fun r17 hr17 => ?_)
          refine tw_c_X6_takeBearing X dX6_readLeg_124 _ tw_w1013  hr17 (tw_le hfr rfl) (tw_le hlo rfl) hcs (Nat.le_of_ble_eq_true rfl) trivial ?_
          refine r_istore X dX6_readLeg_127 (by decide) (LL := fun v18 => [(7, .int v18), (6, .int v16), (5, .int v13), (4, .int v9), (3, .int v5), (2, .int v2), (1, .ref (tw_zB z + 416)), (0, .ref (tw_zB z + 400))]) (fun _ => rfl) (fun v18 => ?_)
          refine r_iconst X dX6_readLeg_129 (v := (0 : Int32)) (by decide) ?_
          refine r_istore X dX6_readLeg_130 (by decide) (LL := fun v19 => [(8, .int v19), (7, .int v18), (6, .int v16), (5, .int v13), (4, .int v9), (3, .int v5), (2, .int v2), (1, .ref (tw_zB z + 416)), (0, .ref (tw_zB z + 400))]) (fun _ => rfl) (fun v19 => ?_)
          refine r_iload X dX6_readLeg_132 4 rfl ?_
          refine r_jn (α := Int32 × tw_Sg) (σJ := fun a20 => a20.2) (pcJ := 158) (LJ := fun a20 => [(8, .int a20.1), (7, .int v18), (6, .int v16), (5, .int v13), (4, .int v9), (3, .int v5), (2, .int v2), (1, .ref (tw_zB z + 416))]) (stJ := fun a20 => []) (ok := fun a20 => True) (fun a20 hoka20 => ?_) (fun j21 hj21 => ?_)
          ·
            refine r_aload_n X dX6_readLeg_158 rfl 7 rfl ?_
            refine tw_g1_5N (k := 416) (v := .ref (tw_zB z + 425)) X dX6_readLeg_159 _ tw_w130 tw_kc416 rfl ?_
            refine r_iload_n X dX6_readLeg_162 rfl 5 rfl ?_
            refine r_iload X dX6_readLeg_163 4 rfl ?_
            refine r_bd (fun r22 hr22 => ?_)
            refine tw_c_X7_put X dX6_readLeg_165 _ tw_w972 tw_kc425 hr22 (tw_le hfr rfl) (tw_le hlo rfl) hcs (Nat.le_of_ble_eq_true rfl) trivial ?_
            refine r_aload_n X dX6_readLeg_168 rfl 7 rfl ?_
            refine tw_g1_6N (k := 416) (v := .ref (tw_zB z + 427)) X dX6_readLeg_169 _ tw_w133 tw_kc416 rfl ?_
            refine r_iload_n X dX6_readLeg_172 rfl 5 rfl ?_
            refine r_iload X dX6_readLeg_173 1 rfl ?_
            refine r_bd (fun r23 hr23 => ?_)
            refine tw_c_X7_put X dX6_readLeg_175 _ tw_w972 tw_kc427 hr23 (tw_le hfr rfl) (tw_le hlo rfl) hcs (Nat.le_of_ble_eq_true rfl) trivial ?_
            refine r_aload_n X dX6_readLeg_178 rfl 7 rfl ?_
            refine tw_g1_9N (k := 416) (v := .ref (tw_zB z + 433)) X dX6_readLeg_179 _ tw_w142 tw_kc416 rfl ?_
            refine r_iload_n X dX6_readLeg_182 rfl 5 rfl ?_
            refine r_iload X dX6_readLeg_183 2 rfl ?_
            refine r_bd (fun r24 hr24 => ?_)
            refine tw_c_X7_put X dX6_readLeg_185 _ tw_w972 tw_kc433 hr24 (tw_le hfr rfl) (tw_le hlo rfl) hcs (Nat.le_of_ble_eq_true rfl) trivial ?_
            refine r_aload_n X dX6_readLeg_188 rfl 7 rfl ?_
            refine tw_g1_7N (k := 416) (v := .ref (tw_zB z + 429)) X dX6_readLeg_189 _ tw_w136 tw_kc416 rfl ?_
            refine r_iload_n X dX6_readLeg_192 rfl 5 rfl ?_
            refine r_iconst X dX6_readLeg_193 (v := (0 : Int32)) (by decide) ?_
            refine r_iload X dX6_readLeg_194 3 rfl ?_
            refine r_iload X dX6_readLeg_196 0 rfl ?_
            refine r_isub X dX6_readLeg_198 ?_
            refine tw_mmax X dX6_readLeg_199 _ tw_w1026 (tw_le hfr rfl) (tw_le hlo rfl) hcs ?_
            refine r_bd (fun r25 hr25 => ?_)
            refine tw_c_X7_put X dX6_readLeg_202 _ tw_w972 tw_kc429 hr25 (tw_le hfr rfl) (tw_le hlo rfl) hcs (Nat.le_of_ble_eq_true rfl) trivial ?_
            refine r_aload_n X dX6_readLeg_205 rfl 7 rfl ?_
            refine tw_g1_8N (k := 416) (v := .ref (tw_zB z + 431)) X dX6_readLeg_206 _ tw_w139 tw_kc416 rfl ?_
            refine r_iload_n X dX6_readLeg_209 rfl 5 rfl ?_
            refine r_iload X dX6_readLeg_210 4 rfl ?_
            refine r_jn (α := Int32) (σJ := fun a26 => r25) (pcJ := 236) (LJ := fun a26 => [(2, .int v2), (1, .ref (tw_zB z + 416))]) (stJ := fun a26 => [.int a26, .int v5, .ref (tw_zB z + 431)]) (ok := fun a26 => True) (fun a26 hoka26 => ?_) (fun j27 hj27 => ?_)
            ·
              refine r_bd (fun r28 hr28 => ?_)
              refine tw_c_X7_put X dX6_readLeg_236 _ tw_w972 tw_kc431 hr28 (tw_le hfr rfl) (tw_le hlo rfl) hcs (Nat.le_of_ble_eq_true rfl) trivial ?_
              refine r_aload_n X dX6_readLeg_239 rfl 1 rfl ?_
              refine tw_g1_4N (k := 416) (v := .ref (tw_zB z + 423)) X dX6_readLeg_240 _ tw_w127 tw_kc416 rfl ?_
              refine r_aload_n X dX6_readLeg_243 rfl 1 rfl ?_
              refine tw_g1_0N (k := 416) (v := .int (r28 416 0)) X dX6_readLeg_244 _ tw_w117 tw_kc416 rfl ?_
              refine r_iload_n X dX6_readLeg_247 rfl 0 rfl ?_
              refine r_iconst X dX6_readLeg_248 (v := (1 : Int32)) (by decide) ?_
              refine r_iadd X dX6_readLeg_249 ?_
              refine r_bd (fun r29 hr29 => ?_)
              refine tw_c_X7_put X dX6_readLeg_250 _ tw_w972 tw_kc423 hr29 (tw_le hfr rfl) (tw_le hlo rfl) hcs (Nat.le_of_ble_eq_true rfl) trivial ?_
              exact r_vret X dX6_readLeg_253 hret hQ rfl
            refine r_if_ne X dX6_readLeg_212 (tgt := 223) (by decide) ?_ ?_
            ·
              refine r_iload X dX6_readLeg_223 4 rfl ?_
              refine r_iconst X dX6_readLeg_225 (v := (1 : Int32)) (by decide) ?_
              refine r_icmp_ne X dX6_readLeg_226 (tgt := 234) (by decide) ?_ ?_
              ·
                refine r_bipush X dX6_readLeg_234 (v := (59 : Int32)) (by decide) ?_
                exact tw_Rf.sub [6, 7] rfl (hj27 (59 : Int32) trivial)
              ·
                refine r_bipush X dX6_readLeg_229 (v := (60 : Int32)) (by decide) ?_
                refine r_goto X dX6_readLeg_231 (tgt := 236) (by decide) ?_
                exact tw_Rf.sub [6, 7] rfl (hj27 (60 : Int32) trivial)
            ·
              refine r_iload X dX6_readLeg_215 3 rfl ?_
              refine r_iload X dX6_readLeg_217 0 rfl ?_
              refine r_iadd X dX6_readLeg_219 ?_
              refine r_goto X dX6_readLeg_220 (tgt := 236) (by decide) ?_
              exact tw_Rf.sub [6, 7] rfl (hj27 (v13 + a20.1) trivial)
          refine r_if_ne X dX6_readLeg_134 (tgt := 158) (by decide) ?_ ?_
          ·
            exact tw_Rf.sub [0, 1, 2, 3, 4, 5, 6, 7] rfl (hj21 (v19, r17.2) trivial)
          ·
            refine r_aload_n X dX6_readLeg_137 rfl 8 rfl ?_
            refine r_ldcS X dX6_readLeg_138 (j := 12) tw_l_R_209 ?_
            refine r_bd (fun r30 hr30 => ?_)
            refine tw_c_X6_isWord X dX6_readLeg_140 _ tw_w845 (by decide) hr30 (tw_le hfr rfl) (tw_le hlo rfl) hcs (Nat.le_of_ble_eq_true rfl) trivial ?_
            refine r_if_eq X dX6_readLeg_143 (tgt := 158) (by decide) ?_ ?_
            ·
              exact tw_Rf.sub [0, 1, 2, 3, 4, 5, 6, 7] rfl (hj21 (v19, r17.2) trivial)
            ·
              refine r_aload_n X dX6_readLeg_146 rfl 8 rfl ?_
              refine r_bd (fun r31 hr31 => ?_)
              refine tw_c_X6_advance X dX6_readLeg_147 _ tw_w828  hr31 (tw_le hfr rfl) (tw_le hlo rfl) hcs (Nat.le_of_ble_eq_true rfl) trivial ?_
              refine r_aload_n X dX6_readLeg_150 rfl 8 rfl ?_
              refine r_iconst X dX6_readLeg_151 (v := (0 : Int32)) (by decide) ?_
              refine r_iconst X dX6_readLeg_152 (v := (5 : Int32)) (by decide) ?_
              refine r_bd (fun r32 hr32 => ?_)
              refine tw_c_X6_takeNumber X dX6_readLeg_153 _ tw_w901  hr32 (tw_le hfr rfl) (tw_le hlo rfl) hcs (Nat.le_of_ble_eq_true rfl) trivial ?_
              refine r_istore X dX6_readLeg_156 (by decide) (LL := fun v33 => [(8, .int v33), (7, .int v18), (6, .int v16), (5, .int v13), (4, .int v9), (3, .int v5), (2, .int v2), (1, .ref (tw_zB z + 416)), (0, .ref (tw_zB z + 400))]) (fun _ => rfl) (fun v33 => ?_)
              exact tw_Rf.sub [0, 1, 2, 3, 4, 5, 6, 7] rfl (hj21 (v33, r32.2) trivial)
        refine r_icmp_ne X dX6_readLeg_100 (tgt := 120) (by decide) ?_ ?_
        ·
          refine r_iconst X dX6_readLeg_120 (v := (0 : Int32)) (by decide) ?_
          exact hj15 ((0 : Int32), a11.2) trivial
        ·
          refine r_aload_n X dX6_readLeg_103 rfl 5 rfl ?_
          refine tw_g6_2 (k := 400) (v := .ref (tw_zB z + 403)) X dX6_readLeg_104 _ tw_w371 tw_kc400 rfl ?_
          refine tw_g2_4N (k := 403) (v := .ref (tw_zB z + 408)) X dX6_readLeg_107 _ tw_w179 tw_kc403 rfl ?_
          refine r_aload_n X dX6_readLeg_110 rfl 5 rfl ?_
          refine r_bd (fun r34 hr34 => ?_)
          refine tw_c_X6_takeKnownMark X dX6_readLeg_111 _ tw_w987  hr34 (tw_le hfr rfl) (tw_le hlo rfl) hcs (Nat.le_of_ble_eq_true rfl) trivial ?_
          refine r_bd (fun r35 hr35 => ?_)
          refine tw_c_X7_get X dX6_readLeg_114 _ tw_w832 tw_kc408 hr35 (tw_le hfr rfl) (tw_le hlo rfl) hcs (Nat.le_of_ble_eq_true rfl) trivial ?_
          refine r_goto X dX6_readLeg_117 (tgt := 121) (by decide) ?_
          exact hj15 (r35, r34.2) trivial
      refine r_if_ne X dX6_readLeg_81 (tgt := 94) (by decide) ?_ ?_
      ·
        refine r_iconst X dX6_readLeg_94 (v := (0 : Int32)) (by decide) ?_
        exact hj12 ((0 : Int32), r10) trivial
      ·
        refine r_aload_n X dX6_readLeg_84 rfl 4 rfl ?_
        refine r_iconst X dX6_readLeg_85 (v := (0 : Int32)) (by decide) ?_
        refine r_bipush X dX6_readLeg_86 (v := (30 : Int32)) (by decide) ?_
        refine r_bd (fun r36 hr36 => ?_)
        refine tw_c_X6_takeNumber X dX6_readLeg_88 _ tw_w901  hr36 (tw_le hfr rfl) (tw_le hlo rfl) hcs (Nat.le_of_ble_eq_true rfl) trivial ?_
        refine r_goto X dX6_readLeg_91 (tgt := 95) (by decide) ?_
        exact hj12 (r36.1, r36.2) trivial
    refine r_if_eq X dX6_readLeg_52 (tgt := 59) (by decide) ?_ ?_
    ·
      refine r_aload_n X dX6_readLeg_59 rfl 3 rfl ?_
      refine r_ldcS X dX6_readLeg_60 (j := 10) tw_l_R_200 ?_
      refine r_bd (fun r37 hr37 => ?_)
      refine tw_c_X6_isWord X dX6_readLeg_62 _ tw_w845 (by decide) hr37 (tw_le hfr rfl) (tw_le hlo rfl) hcs (Nat.le_of_ble_eq_true rfl) trivial ?_
      refine r_if_eq X dX6_readLeg_65 (tgt := 72) (by decide) ?_ ?_
      ·
        refine r_iconst X dX6_readLeg_72 (v := (2 : Int32)) (by decide) ?_
        exact hj8 (2 : Int32) trivial
      ·
        refine r_iconst X dX6_readLeg_68 (v := (1 : Int32)) (by decide) ?_
        refine r_goto X dX6_readLeg_69 (tgt := 73) (by decide) ?_
        exact hj8 (1 : Int32) trivial
    ·
      refine r_iconst X dX6_readLeg_55 (v := (0 : Int32)) (by decide) ?_
      refine r_goto X dX6_readLeg_56 (tgt := 73) (by decide) ?_
      exact hj8 (0 : Int32) trivial
  refine r_icmp_lt X dX6_readLeg_23 (tgt := 36) (by decide) ?_ ?_
  ·
    exact hj4 σ trivial
  ·
    refine r_aload_n X dX6_readLeg_26 rfl 2 rfl ?_
    refine r_bipush X dX6_readLeg_27 (v := (-6 : Int32)) (by decide) ?_
    refine r_aload_n X dX6_readLeg_29 rfl 2 rfl ?_
    refine tw_g6_4 (k := 400) (v := .int (σ 400 4)) X dX6_readLeg_30 _ tw_w374 tw_kc400 rfl ?_
    refine r_bd (fun r38 hr38 => ?_)
    refine tw_c_X6_fail X dX6_readLeg_33 _ tw_w897  hr38 (tw_le hfr rfl) (tw_le hlo rfl) hcs (Nat.le_of_ble_eq_true rfl) trivial ?_
    exact hj4 r38 trivial
theorem tw_c_X6_readLeg {ρ : Type} {z : tw_Z} {cc : ByteArray} {own : String} {nL pc : Nat} {σ : tw_Sg} {L : List (Nat × Value)} {st : List Value} {ix : Nat} {n : Nat}  (X : tw_X z cc own nL) (d : decode cc pc = .ok (.invokevirtual ix, 3)) (i : Nat) (hi : lw_tbl[i]? = some (.methodLink own ix yX6_readLeg))  {res : ρ} {E : Option ρ} {r : tw_Sg} (h : tw_P_X6_readLeg n σ = some r) (h1 : 9 ≤ (tw_zR z).frames) (h2 : 191 ≤ (tw_zR z).locals) (hcs : tw_zcells z ≤ (tw_zR z).cells ∧ tw_zslots z ≤ (tw_zR z).slots) (hst : (st.map fun v => v.category).sum ≤ 8) (_ : True) (kk : tw_Rf z res E r (pc + 3) L (st)) : tw_Rf z res E σ pc L (.ref (tw_zB z + 400) :: st) := r_callV (As := []) X d (tw_m_X6_readLeg  h) tw_y_X6_readLeg tw_v_X6_readLeg i hi rfl (tw_kd_lt tw_kc400 (by decide)) (tw_E6 tw_kc400) rfl ⟨rfl, rfl, h1, h2⟩ hcs hst rfl kk
def tw_P_X6_readClue (n : Nat)  (σ : tw_Sg) : Option (tw_Sg) :=
tw_jn (fun (a1 : tw_Sg) =>
tw_bd (tw_P_X6_advance n a1) (fun r3 =>
tw_bd (tw_P_X6_takeStart n r3) (fun r4 =>
tw_lt (0 : Int32) (fun (v5 : Int32) =>
tw_lp (fun (k7 : (Int32 × tw_Sg) → Option (tw_Sg)) (a6 : Int32 × tw_Sg) =>
tw_jn (fun (a8 : Unit) =>
tw_lt (0 : Int32) (fun (v10 : Int32) =>
tw_lp (fun (k12 : (Int32 × tw_Sg) → Option (tw_Sg)) (a11 : Int32 × tw_Sg) =>
tw_jn (fun (a13 : Unit) =>
tw_bd (tw_P_X6_takeSemicolon n a11.2) (fun r15 =>
tw_bd (tw_P_X7_put 417 (r15 416 0) (1 : Int32) r15) (fun r16 =>
tw_lt (tw_up r16 416 0 ((r16 416 0) + (1 : Int32))) (fun (σ17 : tw_Sg) =>
some σ17)))) (fun (j14 : (Unit) → Option (tw_Sg)) =>
if (8 : Int32) < a11.1 then (j14 ())
else (tw_bd (tw_P_X6_isLegAhead n a11.2) (fun r18 =>
if r18 = 0 then (j14 ())
else (tw_bd (tw_P_X6_readLeg n a11.2) (fun r19 =>
tw_lt (a11.1 + (1 : Int32)) (fun (v20 : Int32) =>
k12 (v20, r19)))))))) n (v10, a6.2))) (fun (j9 : (Unit) → Option (tw_Sg)) =>
if (8 : Int32) ≤ a6.1 then (j9 ())
else (tw_bd (tw_P_X6_isWord n 8 a6.2) (fun r21 =>
if r21 = 0 then (j9 ())
else (tw_bd (tw_P_X6_advance n a6.2) (fun r22 =>
tw_bd (tw_P_X6_takeStart n r22) (fun r23 =>
tw_lt (a6.1 + (1 : Int32)) (fun (v24 : Int32) =>
k7 (v24, r23))))))))) n (v5, r4))))) (fun (j2 : (tw_Sg) → Option (tw_Sg)) =>
if (σ 416 0) < (4 : Int32) then (j2 σ)
else (tw_bd (tw_P_X6_fail (-6 : Int32) (σ 400 4) σ) (fun r25 =>
j2 r25)))
theorem tw_y_X6_readClue : tw_My yX6_readClue cX6_readClue 3 none 0 := ⟨List.mem_of_getElem? tw_w982, List.mem_of_getElem? tw_w47, by decide +kernel, by decide +kernel, by decide +kernel⟩
theorem tw_v_X6_readClue : tw_Mv yX6_readClue "TreasureWalk$Reader" := ⟨List.mem_of_getElem? tw_w981, List.mem_of_getElem? tw_w22, rfl⟩
set_option maxRecDepth 100000 in
set_option maxHeartbeats 4000000 in
theorem tw_m_X6_readClue {l : Launch} {B : Nat} {D : tw_G} {C : Nat → ClassId} {S : Nat → Nat} {n : Nat}  {σ : tw_Sg}  {r : tw_Sg} (h : tw_P_X6_readClue n σ = some r) : tw_Met l B D C S yX6_readClue cX6_readClue 3 none ({ frames := 9, cells := 0, slots := 0, locals := 191 } : Room) [.ref (B + 400)] σ (none) r := by
  refine tw_metOfP (tw_P_X6_readClue n σ) r h (fun r => (none, r)) (by decide +kernel) (Nat.le_of_ble_eq_true rfl) ⟨rfl, rfl⟩ ?_
  intro z el eB eD eC eS hfr hlo hcs X hret hQ
  subst el eB eD eC eS
  have X : tw_X z cX6_readClue "TreasureWalk$Reader" 3 := X
  show tw_Rf z r _ σ 0 [(0, .ref (tw_zB z + 400))] []
  unfold tw_P_X6_readClue
  refine r_aload_n X dX6_readClue_0 rfl 0 rfl ?_
  refine tw_g6_2 (k := 400) (v := .ref (tw_zB z + 403)) X dX6_readClue_1 _ tw_w371 tw_kc400 rfl ?_
  refine tw_g2_9N (k := 403) (v := .ref (tw_zB z + 416)) X dX6_readClue_4 _ tw_w196 tw_kc403 rfl ?_
  refine r_astore_n X dX6_readClue_7 rfl (by decide) (L' := [(1, .ref (tw_zB z + 416)), (0, .ref (tw_zB z + 400))]) rfl ?_
  refine r_aload_n X dX6_readClue_8 rfl 0 rfl ?_
  refine tw_g1_0N (k := 416) (v := .int (σ 416 0)) X dX6_readClue_9 _ tw_w117 tw_kc416 rfl ?_
  refine r_iconst X dX6_readClue_12 (v := (4 : Int32)) (by decide) ?_
  refine r_jn (α := tw_Sg) (σJ := fun a1 => a1) (pcJ := 26) (LJ := fun a1 => [(1, .ref (tw_zB z + 416)), (0, .ref (tw_zB z + 400))]) (stJ := fun a1 => []) (ok := fun a1 => True) (fun a1 hoka1 => ?_) (fun j2 hj2 => ?_)
  ·
    refine r_aload_n X dX6_readClue_26 rfl 1 rfl ?_
    refine r_bd (fun r3 hr3 => ?_)
    refine tw_c_X6_advance X dX6_readClue_27 _ tw_w828  hr3 (tw_le hfr rfl) (tw_le hlo rfl) hcs (Nat.le_of_ble_eq_true rfl) trivial ?_
    refine r_aload_n X dX6_readClue_30 rfl 1 rfl ?_
    refine r_bd (fun r4 hr4 => ?_)
    refine tw_c_X6_takeStart X dX6_readClue_31 _ tw_w983  hr4 (tw_le hfr rfl) (tw_le hlo rfl) hcs (Nat.le_of_ble_eq_true rfl) trivial ?_
    refine r_iconst X dX6_readClue_34 (v := (0 : Int32)) (by decide) ?_
    refine r_istore_n X dX6_readClue_35 rfl (by decide) (LL := fun v5 => [(2, .int v5), (1, .ref (tw_zB z + 416)), (0, .ref (tw_zB z + 400))]) (fun _ => rfl) (fun v5 => ?_)
    refine r_lp (α := Int32 × tw_Sg) (σJ := fun a6 => a6.2) (pcJ := 36) (LJ := fun a6 => [(2, .int a6.1), (1, .ref (tw_zB z + 416)), (0, .ref (tw_zB z + 400))]) (stJ := fun a6 => []) (fun k7 hk7 a6 => ?_) n (v5, r4)
    refine r_iload_n X dX6_readClue_36 rfl 0 rfl ?_
    refine r_bipush X dX6_readClue_37 (v := (8 : Int32)) (by decide) ?_
    refine r_jn (α := Unit) (σJ := fun a8 => a6.2) (pcJ := 65) (LJ := fun a8 => [(1, .ref (tw_zB z + 416)), (0, .ref (tw_zB z + 400))]) (stJ := fun a8 => []) (ok := fun a8 => True) (fun a8 hoka8 => ?_) (fun j9 hj9 => ?_)
    ·
      refine r_iconst X dX6_readClue_65 (v := (0 : Int32)) (by decide) ?_
      refine r_istore_n X dX6_readClue_66 rfl (by decide) (LL := fun v10 => [(2, .int v10), (1, .ref (tw_zB z + 416)), (0, .ref (tw_zB z + 400))]) (fun _ => rfl) (fun v10 => ?_)
      refine r_lp (α := Int32 × tw_Sg) (σJ := fun a11 => a11.2) (pcJ := 67) (LJ := fun a11 => [(2, .int a11.1), (1, .ref (tw_zB z + 416)), (0, .ref (tw_zB z + 400))]) (stJ := fun a11 => []) (fun k12 hk12 a11 => ?_) n (v10, a6.2)
      refine r_iload_n X dX6_readClue_67 rfl 0 rfl ?_
      refine r_bipush X dX6_readClue_68 (v := (8 : Int32)) (by decide) ?_
      refine r_jn (α := Unit) (σJ := fun a13 => a11.2) (pcJ := 90) (LJ := fun a13 => [(1, .ref (tw_zB z + 416)), (0, .ref (tw_zB z + 400))]) (stJ := fun a13 => []) (ok := fun a13 => True) (fun a13 hoka13 => ?_) (fun j14 hj14 => ?_)
      ·
        refine r_aload_n X dX6_readClue_90 rfl 1 rfl ?_
        refine r_bd (fun r15 hr15 => ?_)
        refine tw_c_X6_takeSemicolon X dX6_readClue_91 _ tw_w906  hr15 (tw_le hfr rfl) (tw_le hlo rfl) hcs (Nat.le_of_ble_eq_true rfl) trivial ?_
        refine r_aload_n X dX6_readClue_94 rfl 0 rfl ?_
        refine tw_g1_1N (k := 416) (v := .ref (tw_zB z + 417)) X dX6_readClue_95 _ tw_w119 tw_kc416 rfl ?_
        refine r_aload_n X dX6_readClue_98 rfl 0 rfl ?_
        refine tw_g1_0N (k := 416) (v := .int (r15 416 0)) X dX6_readClue_99 _ tw_w117 tw_kc416 rfl ?_
        refine r_iconst X dX6_readClue_102 (v := (1 : Int32)) (by decide) ?_
        refine r_bd (fun r16 hr16 => ?_)
        refine tw_c_X7_put X dX6_readClue_103 _ tw_w972 tw_kc417 hr16 (tw_le hfr rfl) (tw_le hlo rfl) hcs (Nat.le_of_ble_eq_true rfl) trivial ?_
        refine r_aload_n X dX6_readClue_106 rfl 0 rfl ?_
        refine r_dup X dX6_readClue_107 rfl ?_
        refine tw_g1_0N (k := 416) (v := .int (r16 416 0)) X dX6_readClue_108 _ tw_w117 tw_kc416 rfl ?_
        refine r_iconst X dX6_readClue_111 (v := (1 : Int32)) (by decide) ?_
        refine r_iadd X dX6_readClue_112 ?_
        refine tw_s1_0N (k := 416) X dX6_readClue_113 _ tw_w117 tw_kc416 (fun σ17 => ?_)
        exact r_vret X dX6_readClue_116 hret hQ rfl
      refine r_icmp_gt X dX6_readClue_70 (tgt := 90) (by decide) ?_ ?_
      ·
        exact tw_Rf.sub [1, 2] rfl (hj14 () trivial)
      ·
        refine r_aload_n X dX6_readClue_73 rfl 2 rfl ?_
        refine r_bd (fun r18 hr18 => ?_)
        refine tw_c_X6_isLegAhead X dX6_readClue_74 _ tw_w1002  hr18 (tw_le hfr rfl) (tw_le hlo rfl) hcs (Nat.le_of_ble_eq_true rfl) trivial ?_
        refine r_if_eq X dX6_readClue_77 (tgt := 90) (by decide) ?_ ?_
        ·
          exact tw_Rf.sub [1, 2] rfl (hj14 () trivial)
        ·
          refine r_aload_n X dX6_readClue_80 rfl 2 rfl ?_
          refine r_bd (fun r19 hr19 => ?_)
          refine tw_c_X6_readLeg X dX6_readClue_81 _ tw_w1009  hr19 (tw_le hfr rfl) (tw_le hlo rfl) hcs (Nat.le_of_ble_eq_true rfl) trivial ?_
          refine r_iinc X dX6_readClue_84 0 rfl (v := (1 : Int32)) (by decide) (by decide) (LL := fun v20 => [(2, .int v20), (1, .ref (tw_zB z + 416)), (0, .ref (tw_zB z + 400))]) (fun _ => rfl) (fun v20 => ?_)
          refine r_goto X dX6_readClue_87 (tgt := 67) (by decide) ?_
          exact hk12 (v20, r19)
    refine r_icmp_ge X dX6_readClue_39 (tgt := 65) (by decide) ?_ ?_
    ·
      exact tw_Rf.sub [1, 2] rfl (hj9 () trivial)
    ·
      refine r_aload_n X dX6_readClue_42 rfl 2 rfl ?_
      refine r_ldcS X dX6_readClue_43 (j := 8) tw_l_R_177 ?_
      refine r_bd (fun r21 hr21 => ?_)
      refine tw_c_X6_isWord X dX6_readClue_45 _ tw_w845 (by decide) hr21 (tw_le hfr rfl) (tw_le hlo rfl) hcs (Nat.le_of_ble_eq_true rfl) trivial ?_
      refine r_if_eq X dX6_readClue_48 (tgt := 65) (by decide) ?_ ?_
      ·
        exact tw_Rf.sub [1, 2] rfl (hj9 () trivial)
      ·
        refine r_aload_n X dX6_readClue_51 rfl 2 rfl ?_
        refine r_bd (fun r22 hr22 => ?_)
        refine tw_c_X6_advance X dX6_readClue_52 _ tw_w828  hr22 (tw_le hfr rfl) (tw_le hlo rfl) hcs (Nat.le_of_ble_eq_true rfl) trivial ?_
        refine r_aload_n X dX6_readClue_55 rfl 2 rfl ?_
        refine r_bd (fun r23 hr23 => ?_)
        refine tw_c_X6_takeStart X dX6_readClue_56 _ tw_w983  hr23 (tw_le hfr rfl) (tw_le hlo rfl) hcs (Nat.le_of_ble_eq_true rfl) trivial ?_
        refine r_iinc X dX6_readClue_59 0 rfl (v := (1 : Int32)) (by decide) (by decide) (LL := fun v24 => [(2, .int v24), (1, .ref (tw_zB z + 416)), (0, .ref (tw_zB z + 400))]) (fun _ => rfl) (fun v24 => ?_)
        refine r_goto X dX6_readClue_62 (tgt := 36) (by decide) ?_
        exact hk7 (v24, r23)
  refine r_icmp_lt X dX6_readClue_13 (tgt := 26) (by decide) ?_ ?_
  ·
    exact hj2 σ trivial
  ·
    refine r_aload_n X dX6_readClue_16 rfl 1 rfl ?_
    refine r_bipush X dX6_readClue_17 (v := (-6 : Int32)) (by decide) ?_
    refine r_aload_n X dX6_readClue_19 rfl 1 rfl ?_
    refine tw_g6_4 (k := 400) (v := .int (σ 400 4)) X dX6_readClue_20 _ tw_w374 tw_kc400 rfl ?_
    refine r_bd (fun r25 hr25 => ?_)
    refine tw_c_X6_fail X dX6_readClue_23 _ tw_w897  hr25 (tw_le hfr rfl) (tw_le hlo rfl) hcs (Nat.le_of_ble_eq_true rfl) trivial ?_
    exact hj2 r25 trivial
theorem tw_c_X6_readClue {ρ : Type} {z : tw_Z} {cc : ByteArray} {own : String} {nL pc : Nat} {σ : tw_Sg} {L : List (Nat × Value)} {st : List Value} {ix : Nat} {n : Nat}  (X : tw_X z cc own nL) (d : decode cc pc = .ok (.invokevirtual ix, 3)) (i : Nat) (hi : lw_tbl[i]? = some (.methodLink own ix yX6_readClue))  {res : ρ} {E : Option ρ} {r : tw_Sg} (h : tw_P_X6_readClue n σ = some r) (h1 : 10 ≤ (tw_zR z).frames) (h2 : 213 ≤ (tw_zR z).locals) (hcs : tw_zcells z ≤ (tw_zR z).cells ∧ tw_zslots z ≤ (tw_zR z).slots) (hst : (st.map fun v => v.category).sum ≤ 8) (_ : True) (kk : tw_Rf z res E r (pc + 3) L (st)) : tw_Rf z res E σ pc L (.ref (tw_zB z + 400) :: st) := r_callV (As := []) X d (tw_m_X6_readClue  h) tw_y_X6_readClue tw_v_X6_readClue i hi rfl (tw_kd_lt tw_kc400 (by decide)) (tw_E6 tw_kc400) rfl ⟨rfl, rfl, h1, h2⟩ hcs hst rfl kk
def tw_P_X6_read (n : Nat) (x0 : Int32) (σ : tw_Sg) : Option (Int32 × tw_Sg) :=
tw_lt (tw_up σ 400 3 x0) (fun (σ1 : tw_Sg) =>
tw_lt (tw_up σ1 400 1 (0 : Int32)) (fun (σ2 : tw_Sg) =>
tw_lt (tw_up σ2 400 5 (0 : Int32)) (fun (σ3 : tw_Sg) =>
tw_lt (tw_up σ3 400 7 (0 : Int32)) (fun (σ4 : tw_Sg) =>
tw_lt (tw_up σ4 400 8 (-1 : Int32)) (fun (σ5 : tw_Sg) =>
tw_bd (tw_P_X6_advance n σ5) (fun r6 =>
tw_bd (tw_P_X6_readMap n r6) (fun r7 =>
tw_lt (0 : Int32) (fun (v8 : Int32) =>
tw_lp (fun (k10 : (Int32 × tw_Sg) → Option (Int32 × tw_Sg)) (a9 : Int32 × tw_Sg) =>
tw_jn (fun (a11 : Unit) =>
tw_jn (fun (a13 : tw_Sg) =>
some ((a13 400 7), a13)) (fun (j14 : (tw_Sg) → Option (Int32 × tw_Sg)) =>
if ¬ (a9.2 403 10) = 0 then (j14 a9.2)
else (tw_bd (tw_P_X0_at n 404 (0 : Int32) a9.2) (fun r15 =>
tw_lt (tw_up a9.2 403 10 r15) (fun (σ16 : tw_Sg) =>
j14 σ16))))) (fun (j12 : (Unit) → Option (Int32 × tw_Sg)) =>
if (600 : Int32) ≤ a9.1 then (j12 ())
else (if ¬ (a9.2 400 7) = 0 then (j12 ())
else (if (a9.2 400 6) = 0 then (j12 ())
else (tw_bd (tw_P_X6_isWord n 0 a9.2) (fun r17 =>
tw_jn (fun (a18 : tw_Sg) =>
tw_lt (a9.1 + (1 : Int32)) (fun (v20 : Int32) =>
k10 (v20, a18))) (fun (j19 : (tw_Sg) → Option (Int32 × tw_Sg)) =>
if r17 = 0 then (tw_bd (tw_P_X6_isWord n 1 a9.2) (fun r21 =>
if r21 = 0 then (tw_bd (tw_P_X6_isWord n 2 a9.2) (fun r22 =>
if r22 = 0 then (tw_bd (tw_P_X6_isWord n 3 a9.2) (fun r23 =>
if r23 = 0 then (tw_bd (tw_P_X6_isWord n 4 a9.2) (fun r24 =>
if r24 = 0 then (tw_bd (tw_P_X6_fail (-2 : Int32) (a9.2 400 4) a9.2) (fun r25 =>
j19 r25))
else (tw_bd (tw_P_X6_readClue n a9.2) (fun r26 =>
j19 r26))))
else (tw_bd (tw_P_X6_readTeam n a9.2) (fun r27 =>
j19 r27))))
else (tw_bd (tw_P_X6_readMark n a9.2) (fun r28 =>
j19 r28))))
else (tw_bd (tw_P_X6_readBend n a9.2) (fun r29 =>
j19 r29))))
else (tw_bd (tw_P_X6_readWater n a9.2) (fun r30 =>
j19 r30))))))))) n (v8, r7)))))))))
theorem tw_y_X6_read : tw_My yX6_read cX6_read 3 (some .int) 1 := ⟨List.mem_of_getElem? tw_w827, List.mem_of_getElem? tw_w47, by decide +kernel, by decide +kernel, by decide +kernel⟩
theorem tw_v_X6_read : tw_Mv yX6_read "TreasureWalk$Reader" := ⟨List.mem_of_getElem? tw_w825, List.mem_of_getElem? tw_w826, rfl⟩
set_option maxRecDepth 100000 in
set_option maxHeartbeats 4000000 in
theorem tw_m_X6_read {l : Launch} {B : Nat} {D : tw_G} {C : Nat → ClassId} {S : Nat → Nat} {n : Nat} {x0 : Int32} {σ : tw_Sg}  {r : Int32 × tw_Sg} (h : tw_P_X6_read n x0 σ = some r) : tw_Met l B D C S yX6_read cX6_read 3 (some .int) ({ frames := 10, cells := 0, slots := 0, locals := 213 } : Room) [.ref (B + 400), .int x0] σ (some (.int r.1)) r.2 := by
  refine tw_metOfP (tw_P_X6_read n x0 σ) r h (fun r => (some (.int r.1), r.2)) (by decide +kernel) (Nat.le_of_ble_eq_true rfl) ⟨rfl, rfl⟩ ?_
  intro z el eB eD eC eS hfr hlo hcs X hret hQ
  subst el eB eD eC eS
  have X : tw_X z cX6_read "TreasureWalk$Reader" 3 := X
  show tw_Rf z r _ σ 0 [(0, .ref (tw_zB z + 400)), (1, .int x0)] []
  unfold tw_P_X6_read
  refine r_aload_n X dX6_read_0 rfl 0 rfl ?_
  refine r_iload_n X dX6_read_1 rfl 1 rfl ?_
  refine tw_s6_3 (k := 400) X dX6_read_2 _ tw_w373 tw_kc400 (fun σ1 => ?_)
  refine r_aload_n X dX6_read_5 rfl 0 rfl ?_
  refine r_iconst X dX6_read_6 (v := (0 : Int32)) (by decide) ?_
  refine tw_s6_1 (k := 400) X dX6_read_7 _ tw_w370 tw_kc400 (fun σ2 => ?_)
  refine r_aload_n X dX6_read_10 rfl 0 rfl ?_
  refine r_iconst X dX6_read_11 (v := (0 : Int32)) (by decide) ?_
  refine tw_s6_5 (k := 400) X dX6_read_12 _ tw_w375 tw_kc400 (fun σ3 => ?_)
  refine r_aload_n X dX6_read_15 rfl 0 rfl ?_
  refine r_iconst X dX6_read_16 (v := (0 : Int32)) (by decide) ?_
  refine tw_s6_7 (k := 400) X dX6_read_17 _ tw_w377 tw_kc400 (fun σ4 => ?_)
  refine r_aload_n X dX6_read_20 rfl 0 rfl ?_
  refine r_iconst X dX6_read_21 (v := (-1 : Int32)) (by decide) ?_
  refine tw_s6_8 (k := 400) X dX6_read_22 _ tw_w378 tw_kc400 (fun σ5 => ?_)
  refine r_aload_n X dX6_read_25 rfl 0 rfl ?_
  refine r_bd (fun r6 hr6 => ?_)
  refine tw_c_X6_advance X dX6_read_26 _ tw_w828  hr6 (tw_le hfr rfl) (tw_le hlo rfl) hcs (Nat.le_of_ble_eq_true rfl) trivial ?_
  refine r_aload_n X dX6_read_29 rfl 0 rfl ?_
  refine r_bd (fun r7 hr7 => ?_)
  refine tw_c_X6_readMap X dX6_read_30 _ tw_w836  hr7 (tw_le hfr rfl) (tw_le hlo rfl) hcs (Nat.le_of_ble_eq_true rfl) trivial ?_
  refine r_iconst X dX6_read_33 (v := (0 : Int32)) (by decide) ?_
  refine r_istore_n X dX6_read_34 rfl (by decide) (LL := fun v8 => [(2, .int v8), (0, .ref (tw_zB z + 400)), (1, .int x0)]) (fun _ => rfl) (fun v8 => ?_)
  refine tw_Rf.sub [0, 1] rfl ?_
  refine r_lp (α := Int32 × tw_Sg) (σJ := fun a9 => a9.2) (pcJ := 35) (LJ := fun a9 => [(2, .int a9.1), (0, .ref (tw_zB z + 400))]) (stJ := fun a9 => []) (fun k10 hk10 a9 => ?_) n (v8, r7)
  refine r_iload_n X dX6_read_35 rfl 0 rfl ?_
  refine r_sipush X dX6_read_36 (v := (600 : Int32)) (by decide) ?_
  refine r_jn (α := Unit) (σJ := fun a11 => a9.2) (pcJ := 152) (LJ := fun a11 => [(0, .ref (tw_zB z + 400))]) (stJ := fun a11 => []) (ok := fun a11 => True) (fun a11 hoka11 => ?_) (fun j12 hj12 => ?_)
  ·
    refine r_aload_n X dX6_read_152 rfl 0 rfl ?_
    refine tw_g6_2 (k := 400) (v := .ref (tw_zB z + 403)) X dX6_read_153 _ tw_w371 tw_kc400 rfl ?_
    refine tw_g2_10N (k := 403) (v := .int (a9.2 403 10)) X dX6_read_156 _ tw_w199 tw_kc403 rfl ?_
    refine r_jn (α := tw_Sg) (σJ := fun a13 => a13) (pcJ := 180) (LJ := fun a13 => [(0, .ref (tw_zB z + 400))]) (stJ := fun a13 => []) (ok := fun a13 => True) (fun a13 hoka13 => ?_) (fun j14 hj14 => ?_)
    ·
      refine r_aload_n X dX6_read_180 rfl 0 rfl ?_
      refine tw_g6_7 (k := 400) (v := .int (a13 400 7)) X dX6_read_181 _ tw_w377 tw_kc400 rfl ?_
      exact r_iret X dX6_read_184 hret hQ rfl
    refine r_if_ne X dX6_read_159 (tgt := 180) (by decide) ?_ ?_
    ·
      exact hj14 a9.2 trivial
    ·
      refine r_aload_n X dX6_read_162 rfl 0 rfl ?_
      refine tw_g6_2 (k := 400) (v := .ref (tw_zB z + 403)) X dX6_read_163 _ tw_w371 tw_kc400 rfl ?_
      refine r_aload_n X dX6_read_166 rfl 0 rfl ?_
      refine tw_g6_2 (k := 400) (v := .ref (tw_zB z + 403)) X dX6_read_167 _ tw_w371 tw_kc400 rfl ?_
      refine tw_g2_2N (k := 403) (v := .ref (tw_zB z + 404)) X dX6_read_170 _ tw_w172 tw_kc403 rfl ?_
      refine r_iconst X dX6_read_173 (v := (0 : Int32)) (by decide) ?_
      refine r_bd (fun r15 hr15 => ?_)
      refine tw_c_X0_at X dX6_read_174 _ tw_w1027 tw_kc404 hr15 (tw_le hfr rfl) (tw_le hlo rfl) hcs (Nat.le_of_ble_eq_true rfl) trivial ?_
      refine tw_s2_10N (k := 403) X dX6_read_177 _ tw_w199 tw_kc403 (fun σ16 => ?_)
      exact hj14 σ16 trivial
  refine r_icmp_ge X dX6_read_39 (tgt := 152) (by decide) ?_ ?_
  ·
    exact tw_Rf.sub [1] rfl (hj12 () trivial)
  ·
    refine r_aload_n X dX6_read_42 rfl 1 rfl ?_
    refine tw_g6_7 (k := 400) (v := .int (a9.2 400 7)) X dX6_read_43 _ tw_w377 tw_kc400 rfl ?_
    refine r_if_ne X dX6_read_46 (tgt := 152) (by decide) ?_ ?_
    ·
      exact tw_Rf.sub [1] rfl (hj12 () trivial)
    ·
      refine r_aload_n X dX6_read_49 rfl 1 rfl ?_
      refine tw_g6_6 (k := 400) (v := .int (a9.2 400 6)) X dX6_read_50 _ tw_w376 tw_kc400 rfl ?_
      refine r_if_eq X dX6_read_53 (tgt := 152) (by decide) ?_ ?_
      ·
        exact tw_Rf.sub [1] rfl (hj12 () trivial)
      ·
        refine r_aload_n X dX6_read_56 rfl 1 rfl ?_
        refine r_ldcS X dX6_read_57 (j := 0) tw_l_R_56 ?_
        refine r_bd (fun r17 hr17 => ?_)
        refine tw_c_X6_isWord X dX6_read_59 _ tw_w845 (by decide) hr17 (tw_le hfr rfl) (tw_le hlo rfl) hcs (Nat.le_of_ble_eq_true rfl) trivial ?_
        refine r_jn (α := tw_Sg) (σJ := fun a18 => a18) (pcJ := 146) (LJ := fun a18 => [(2, .int a9.1), (0, .ref (tw_zB z + 400))]) (stJ := fun a18 => []) (ok := fun a18 => True) (fun a18 hoka18 => ?_) (fun j19 hj19 => ?_)
        ·
          refine r_iinc X dX6_read_146 0 rfl (v := (1 : Int32)) (by decide) (by decide) (LL := fun v20 => [(2, .int v20), (0, .ref (tw_zB z + 400))]) (fun _ => rfl) (fun v20 => ?_)
          refine r_goto X dX6_read_149 (tgt := 35) (by decide) ?_
          exact hk10 (v20, a18)
        refine r_if_eq X dX6_read_62 (tgt := 72) (by decide) ?_ ?_
        ·
          refine r_aload_n X dX6_read_72 rfl 1 rfl ?_
          refine r_ldcS X dX6_read_73 (j := 1) tw_l_R_65 ?_
          refine r_bd (fun r21 hr21 => ?_)
          refine tw_c_X6_isWord X dX6_read_75 _ tw_w845 (by decide) hr21 (tw_le hfr rfl) (tw_le hlo rfl) hcs (Nat.le_of_ble_eq_true rfl) trivial ?_
          refine r_if_eq X dX6_read_78 (tgt := 88) (by decide) ?_ ?_
          ·
            refine r_aload_n X dX6_read_88 rfl 1 rfl ?_
            refine r_ldcS X dX6_read_89 (j := 2) tw_l_R_70 ?_
            refine r_bd (fun r22 hr22 => ?_)
            refine tw_c_X6_isWord X dX6_read_91 _ tw_w845 (by decide) hr22 (tw_le hfr rfl) (tw_le hlo rfl) hcs (Nat.le_of_ble_eq_true rfl) trivial ?_
            refine r_if_eq X dX6_read_94 (tgt := 104) (by decide) ?_ ?_
            ·
              refine r_aload_n X dX6_read_104 rfl 1 rfl ?_
              refine r_ldcS X dX6_read_105 (j := 3) tw_l_R_75 ?_
              refine r_bd (fun r23 hr23 => ?_)
              refine tw_c_X6_isWord X dX6_read_107 _ tw_w845 (by decide) hr23 (tw_le hfr rfl) (tw_le hlo rfl) hcs (Nat.le_of_ble_eq_true rfl) trivial ?_
              refine r_if_eq X dX6_read_110 (tgt := 120) (by decide) ?_ ?_
              ·
                refine r_aload_n X dX6_read_120 rfl 1 rfl ?_
                refine r_ldcS X dX6_read_121 (j := 4) tw_l_R_80 ?_
                refine r_bd (fun r24 hr24 => ?_)
                refine tw_c_X6_isWord X dX6_read_123 _ tw_w845 (by decide) hr24 (tw_le hfr rfl) (tw_le hlo rfl) hcs (Nat.le_of_ble_eq_true rfl) trivial ?_
                refine r_if_eq X dX6_read_126 (tgt := 136) (by decide) ?_ ?_
                ·
                  refine r_aload_n X dX6_read_136 rfl 1 rfl ?_
                  refine r_bipush X dX6_read_137 (v := (-2 : Int32)) (by decide) ?_
                  refine r_aload_n X dX6_read_139 rfl 1 rfl ?_
                  refine tw_g6_4 (k := 400) (v := .int (a9.2 400 4)) X dX6_read_140 _ tw_w374 tw_kc400 rfl ?_
                  refine r_bd (fun r25 hr25 => ?_)
                  refine tw_c_X6_fail X dX6_read_143 _ tw_w897  hr25 (tw_le hfr rfl) (tw_le hlo rfl) hcs (Nat.le_of_ble_eq_true rfl) trivial ?_
                  exact hj19 r25 trivial
                ·
                  refine r_aload_n X dX6_read_129 rfl 1 rfl ?_
                  refine r_bd (fun r26 hr26 => ?_)
                  refine tw_c_X6_readClue X dX6_read_130 _ tw_w979  hr26 (tw_le hfr rfl) (tw_le hlo rfl) hcs (Nat.le_of_ble_eq_true rfl) trivial ?_
                  refine r_goto X dX6_read_133 (tgt := 146) (by decide) ?_
                  exact hj19 r26 trivial
              ·
                refine r_aload_n X dX6_read_113 rfl 1 rfl ?_
                refine r_bd (fun r27 hr27 => ?_)
                refine tw_c_X6_readTeam X dX6_read_114 _ tw_w974  hr27 (tw_le hfr rfl) (tw_le hlo rfl) hcs (Nat.le_of_ble_eq_true rfl) trivial ?_
                refine r_goto X dX6_read_117 (tgt := 146) (by decide) ?_
                exact hj19 r27 trivial
            ·
              refine r_aload_n X dX6_read_97 rfl 1 rfl ?_
              refine r_bd (fun r28 hr28 => ?_)
              refine tw_c_X6_readMark X dX6_read_98 _ tw_w959  hr28 (tw_le hfr rfl) (tw_le hlo rfl) hcs (Nat.le_of_ble_eq_true rfl) trivial ?_
              refine r_goto X dX6_read_101 (tgt := 146) (by decide) ?_
              exact hj19 r28 trivial
          ·
            refine r_aload_n X dX6_read_81 rfl 1 rfl ?_
            refine r_bd (fun r29 hr29 => ?_)
            refine tw_c_X6_readBend X dX6_read_82 _ tw_w947  hr29 (tw_le hfr rfl) (tw_le hlo rfl) hcs (Nat.le_of_ble_eq_true rfl) trivial ?_
            refine r_goto X dX6_read_85 (tgt := 146) (by decide) ?_
            exact hj19 r29 trivial
        ·
          refine r_aload_n X dX6_read_65 rfl 1 rfl ?_
          refine r_bd (fun r30 hr30 => ?_)
          refine tw_c_X6_readWater X dX6_read_66 _ tw_w912  hr30 (tw_le hfr rfl) (tw_le hlo rfl) hcs (Nat.le_of_ble_eq_true rfl) trivial ?_
          refine r_goto X dX6_read_69 (tgt := 146) (by decide) ?_
          exact hj19 r30 trivial
theorem tw_c_X6_read {ρ : Type} {z : tw_Z} {cc : ByteArray} {own : String} {nL pc : Nat} {σ : tw_Sg} {L : List (Nat × Value)} {st : List Value} {ix : Nat} {n : Nat} {x0 : Int32} (X : tw_X z cc own nL) (d : decode cc pc = .ok (.invokevirtual ix, 3)) (i : Nat) (hi : lw_tbl[i]? = some (.methodLink own ix yX6_read))  {res : ρ} {E : Option ρ} {r : Int32 × tw_Sg} (h : tw_P_X6_read n x0 σ = some r) (h1 : 11 ≤ (tw_zR z).frames) (h2 : 235 ≤ (tw_zR z).locals) (hcs : tw_zcells z ≤ (tw_zR z).cells ∧ tw_zslots z ≤ (tw_zR z).slots) (hst : (st.map fun v => v.category).sum ≤ 8) (_ : True) (kk : tw_Rf z res E r.2 (pc + 3) L (.int r.1 :: st)) : tw_Rf z res E σ pc L (.int x0 :: .ref (tw_zB z + 400) :: st) := r_callV (As := [.int x0]) X d (tw_m_X6_read  h) tw_y_X6_read tw_v_X6_read i hi rfl (tw_kd_lt tw_kc400 (by decide)) (tw_E6 tw_kc400) rfl ⟨rfl, rfl, h1, h2⟩ hcs hst rfl kk
def tw_P_X10_region (x0 : Int32) (σ : tw_Sg) : Option (Nat) :=
tw_bd (tw_P_X7_get 21 x0 σ) (fun r1 =>
tw_bd (tw_P_X5_at 36 ((x0 * (9 : Int32)) + r1) σ) (fun r2 =>
tw_ck (decide (tw_kd r2 = 0)) (
some r2)))
theorem tw_y_X10_region : tw_My yX10_region cX10_region 2 (some (.object "TreasureWalk$Cells")) 1 := ⟨List.mem_of_getElem? tw_w1089, List.mem_of_getElem? tw_w42, by decide +kernel, by decide +kernel, by decide +kernel⟩
theorem tw_v_X10_region : tw_Mv yX10_region "TreasureWalk$Trails" := ⟨List.mem_of_getElem? tw_w1087, List.mem_of_getElem? tw_w1088, rfl⟩
set_option maxRecDepth 100000 in
set_option maxHeartbeats 4000000 in
theorem tw_m_X10_region {l : Launch} {B : Nat} {D : tw_G} {C : Nat → ClassId} {S : Nat → Nat} {x0 : Int32} {σ : tw_Sg}  {r : Nat} (h : tw_P_X10_region x0 σ = some r) : tw_Met l B D C S yX10_region cX10_region 2 (some (.object "TreasureWalk$Cells")) ({ frames := 1, cells := 0, slots := 0, locals := 22 } : Room) [.ref (B + 33), .int x0] σ (some (.ref (B + r))) σ := by
  refine tw_metOfP (tw_P_X10_region x0 σ) r h (fun r => (some (.ref (B + r)), σ)) (by decide +kernel) (Nat.le_of_ble_eq_true rfl) ⟨rfl, rfl⟩ ?_
  intro z el eB eD eC eS hfr hlo hcs X hret hQ
  subst el eB eD eC eS
  have X : tw_X z cX10_region "TreasureWalk$Trails" 2 := X
  show tw_Rf z r _ σ 0 [(0, .ref (tw_zB z + 33)), (1, .int x0)] []
  unfold tw_P_X10_region
  refine r_aload_n X dX10_region_0 rfl 0 rfl ?_
  refine tw_g10_2 (k := 33) (v := .ref (tw_zB z + 36)) X dX10_region_1 _ tw_w290 tw_kc33 rfl ?_
  refine r_iload_n X dX10_region_4 rfl 1 rfl ?_
  refine r_bipush X dX10_region_5 (v := (9 : Int32)) (by decide) ?_
  refine r_imul X dX10_region_7 ?_
  refine r_aload_n X dX10_region_8 rfl 0 rfl ?_
  refine tw_g10_0 (k := 33) (v := .ref (tw_zB z + 1)) X dX10_region_9 _ tw_w288 tw_kc33 rfl ?_
  refine tw_g2_9N (k := 1) (v := .ref (tw_zB z + 14)) X dX10_region_12 _ tw_w194 tw_kc1 rfl ?_
  refine tw_g1_4N (k := 14) (v := .ref (tw_zB z + 21)) X dX10_region_15 _ tw_w125 tw_kc14 rfl ?_
  refine r_iload_n X dX10_region_18 rfl 1 rfl ?_
  refine r_bd (fun r1 hr1 => ?_)
  refine tw_c_X7_get X dX10_region_19 _ tw_w517 tw_kc21 hr1 (tw_le hfr rfl) (tw_le hlo rfl) hcs (Nat.le_of_ble_eq_true rfl) trivial ?_
  refine r_iadd X dX10_region_22 ?_
  refine r_bd (fun r2 hr2 => ?_)
  refine tw_c_X5_at X dX10_region_23 _ tw_w551 tw_kc36 hr2 (tw_le hfr rfl) (tw_le hlo rfl) hcs (Nat.le_of_ble_eq_true rfl) trivial ?_
  refine r_ck (fun h3 => ?_)
  exact r_aret X dX10_region_26 hret hQ rfl
theorem tw_c_X10_region {ρ : Type} {z : tw_Z} {cc : ByteArray} {own : String} {nL pc : Nat} {σ : tw_Sg} {L : List (Nat × Value)} {st : List Value} {ix : Nat} {x0 : Int32} (X : tw_X z cc own nL) (d : decode cc pc = .ok (.invokevirtual ix, 3)) (i : Nat) (hi : lw_tbl[i]? = some (.methodLink own ix yX10_region))  {res : ρ} {E : Option ρ} {r : Nat} (h : tw_P_X10_region x0 σ = some r) (h1 : 2 ≤ (tw_zR z).frames) (h2 : 43 ≤ (tw_zR z).locals) (hcs : tw_zcells z ≤ (tw_zR z).cells ∧ tw_zslots z ≤ (tw_zR z).slots) (hst : (st.map fun v => v.category).sum ≤ 8) (_ : True) (kk : tw_Rf z res E σ (pc + 3) L (.ref (tw_zB z + r) :: st)) : tw_Rf z res E σ pc L (.int x0 :: .ref (tw_zB z + 33) :: st) := r_callV (As := [.int x0]) X d (tw_m_X10_region  h) tw_y_X10_region tw_v_X10_region i hi rfl (tw_kd_lt tw_kc33 (by decide)) (tw_E10 tw_kc33) rfl ⟨rfl, rfl, h1, h2⟩ hcs hst rfl kk
def tw_P_X8_clueAgainst (n : Nat) (x0 : Int32) (σ : tw_Sg) : Option (Int32) :=
tw_lt (0 : Int32) (fun (v1 : Int32) =>
tw_lp (fun (k3 : (Int32) → Option (Int32)) (a2 : Int32) =>
if (σ 14 0) ≤ a2 then (some (0 : Int32))
else (tw_bd (tw_P_X1_isUsed 14 a2 σ) (fun r4 =>
tw_jn (fun (a5 : Unit) =>
tw_lt (a2 + (1 : Int32)) (fun (v7 : Int32) =>
k3 v7)) (fun (j6 : (Unit) → Option (Int32)) =>
if r4 = 0 then (j6 ())
else (tw_bd (tw_P_X10_region a2 σ) (fun r8 =>
tw_ck (decide (tw_kd r8 = 0)) (
tw_bd (tw_P_X0_has r8 x0 σ) (fun r10 =>
if ¬ r10 = 0 then (j6 ())
else (some (a2 + (1 : Int32))))))))))) n v1)
theorem tw_y_X8_clueAgainst : tw_My yX8_clueAgainst cX8_clueAgainst 3 (some .int) 1 := ⟨List.mem_of_getElem? tw_w1619, List.mem_of_getElem? tw_w44, by decide +kernel, by decide +kernel, by decide +kernel⟩
theorem tw_v_X8_clueAgainst : tw_Mv yX8_clueAgainst "TreasureWalk$Survey" := ⟨List.mem_of_getElem? tw_w1617, List.mem_of_getElem? tw_w1618, rfl⟩
set_option maxRecDepth 100000 in
set_option maxHeartbeats 4000000 in
theorem tw_m_X8_clueAgainst {l : Launch} {B : Nat} {D : tw_G} {C : Nat → ClassId} {S : Nat → Nat} {n : Nat} {x0 : Int32} {σ : tw_Sg}  {r : Int32} (h : tw_P_X8_clueAgainst n x0 σ = some r) : tw_Met l B D C S yX8_clueAgainst cX8_clueAgainst 3 (some .int) ({ frames := 2, cells := 0, slots := 0, locals := 43 } : Room) [.ref (B + 134), .int x0] σ (some (.int r)) σ := by
  refine tw_metOfP (tw_P_X8_clueAgainst n x0 σ) r h (fun r => (some (.int r), σ)) (by decide +kernel) (Nat.le_of_ble_eq_true rfl) ⟨rfl, rfl⟩ ?_
  intro z el eB eD eC eS hfr hlo hcs X hret hQ
  subst el eB eD eC eS
  have X : tw_X z cX8_clueAgainst "TreasureWalk$Survey" 3 := X
  show tw_Rf z r _ σ 0 [(0, .ref (tw_zB z + 134)), (1, .int x0)] []
  unfold tw_P_X8_clueAgainst
  refine r_iconst X dX8_clueAgainst_0 (v := (0 : Int32)) (by decide) ?_
  refine r_istore_n X dX8_clueAgainst_1 rfl (by decide) (LL := fun v1 => [(2, .int v1), (0, .ref (tw_zB z + 134)), (1, .int x0)]) (fun _ => rfl) (fun v1 => ?_)
  refine r_lp (α := Int32) (σJ := fun a2 => σ) (pcJ := 2) (LJ := fun a2 => [(2, .int a2), (0, .ref (tw_zB z + 134)), (1, .int x0)]) (stJ := fun a2 => []) (fun k3 hk3 a2 => ?_) n v1
  refine r_iload_n X dX8_clueAgainst_2 rfl 0 rfl ?_
  refine r_aload_n X dX8_clueAgainst_3 rfl 1 rfl ?_
  refine tw_g8_0 (k := 134) (v := .ref (tw_zB z + 1)) X dX8_clueAgainst_4 _ tw_w325 tw_kc134 rfl ?_
  refine tw_g2_9N (k := 1) (v := .ref (tw_zB z + 14)) X dX8_clueAgainst_7 _ tw_w193 tw_kc1 rfl ?_
  refine tw_g1_0N (k := 14) (v := .int (σ 14 0)) X dX8_clueAgainst_10 _ tw_w114 tw_kc14 rfl ?_
  refine r_icmp_ge X dX8_clueAgainst_13 (tgt := 55) (by decide) ?_ ?_
  ·
    refine r_iconst X dX8_clueAgainst_55 (v := (0 : Int32)) (by decide) ?_
    exact r_iret X dX8_clueAgainst_56 hret hQ rfl
  ·
    refine r_aload_n X dX8_clueAgainst_16 rfl 1 rfl ?_
    refine tw_g8_0 (k := 134) (v := .ref (tw_zB z + 1)) X dX8_clueAgainst_17 _ tw_w325 tw_kc134 rfl ?_
    refine tw_g2_9N (k := 1) (v := .ref (tw_zB z + 14)) X dX8_clueAgainst_20 _ tw_w193 tw_kc1 rfl ?_
    refine r_iload_n X dX8_clueAgainst_23 rfl 0 rfl ?_
    refine r_bd (fun r4 hr4 => ?_)
    refine tw_c_X1_isUsed X dX8_clueAgainst_24 _ tw_w1186 tw_kc14 hr4 (tw_le hfr rfl) (tw_le hlo rfl) hcs (Nat.le_of_ble_eq_true rfl) trivial ?_
    refine r_jn (α := Unit) (σJ := fun a5 => σ) (pcJ := 49) (LJ := fun a5 => [(2, .int a2), (0, .ref (tw_zB z + 134)), (1, .int x0)]) (stJ := fun a5 => []) (ok := fun a5 => True) (fun a5 hoka5 => ?_) (fun j6 hj6 => ?_)
    ·
      refine r_iinc X dX8_clueAgainst_49 0 rfl (v := (1 : Int32)) (by decide) (by decide) (LL := fun v7 => [(2, .int v7), (0, .ref (tw_zB z + 134)), (1, .int x0)]) (fun _ => rfl) (fun v7 => ?_)
      refine r_goto X dX8_clueAgainst_52 (tgt := 2) (by decide) ?_
      exact hk3 v7
    refine r_if_eq X dX8_clueAgainst_27 (tgt := 49) (by decide) ?_ ?_
    ·
      exact hj6 () trivial
    ·
      refine r_aload_n X dX8_clueAgainst_30 rfl 1 rfl ?_
      refine tw_g8_1 (k := 134) (v := .ref (tw_zB z + 33)) X dX8_clueAgainst_31 _ tw_w326 tw_kc134 rfl ?_
      refine r_iload_n X dX8_clueAgainst_34 rfl 0 rfl ?_
      refine r_bd (fun r8 hr8 => ?_)
      refine tw_c_X10_region X dX8_clueAgainst_35 _ tw_w1190  hr8 (tw_le hfr rfl) (tw_le hlo rfl) hcs (Nat.le_of_ble_eq_true rfl) trivial ?_
      refine r_ck (fun h9 => ?_)
      refine r_iload_n X dX8_clueAgainst_38 rfl 2 rfl ?_
      refine r_bd (fun r10 hr10 => ?_)
      refine tw_c_X0_has X dX8_clueAgainst_39 _ tw_w1199 (of_decide_eq_true h9) hr10 (tw_le hfr rfl) (tw_le hlo rfl) hcs (Nat.le_of_ble_eq_true rfl) trivial ?_
      refine r_if_ne X dX8_clueAgainst_42 (tgt := 49) (by decide) ?_ ?_
      ·
        exact hj6 () trivial
      ·
        refine r_iload_n X dX8_clueAgainst_45 rfl 0 rfl ?_
        refine r_iconst X dX8_clueAgainst_46 (v := (1 : Int32)) (by decide) ?_
        refine r_iadd X dX8_clueAgainst_47 ?_
        exact r_iret X dX8_clueAgainst_48 hret hQ rfl
theorem tw_c_X8_clueAgainst {ρ : Type} {z : tw_Z} {cc : ByteArray} {own : String} {nL pc : Nat} {σ : tw_Sg} {L : List (Nat × Value)} {st : List Value} {ix : Nat} {n : Nat} {x0 : Int32} (X : tw_X z cc own nL) (d : decode cc pc = .ok (.invokevirtual ix, 3)) (i : Nat) (hi : lw_tbl[i]? = some (.methodLink own ix yX8_clueAgainst))  {res : ρ} {E : Option ρ} {r : Int32} (h : tw_P_X8_clueAgainst n x0 σ = some r) (h1 : 3 ≤ (tw_zR z).frames) (h2 : 65 ≤ (tw_zR z).locals) (hcs : tw_zcells z ≤ (tw_zR z).cells ∧ tw_zslots z ≤ (tw_zR z).slots) (hst : (st.map fun v => v.category).sum ≤ 8) (_ : True) (kk : tw_Rf z res E σ (pc + 3) L (.int r :: st)) : tw_Rf z res E σ pc L (.int x0 :: .ref (tw_zB z + 134) :: st) := r_callV (As := [.int x0]) X d (tw_m_X8_clueAgainst  h) tw_y_X8_clueAgainst tw_v_X8_clueAgainst i hi rfl (tw_kd_lt tw_kc134 (by decide)) (tw_E8 tw_kc134) rfl ⟨rfl, rfl, h1, h2⟩ hcs hst rfl kk
def tw_P_X8_candidates (n : Nat)  (σ : tw_Sg) : Option (Nat × tw_Sg) :=
tw_bd (tw_P_X0_copyFrom 140 2 σ) (fun r1 =>
tw_lt (0 : Int32) (fun (v2 : Int32) =>
tw_lp (fun (k4 : (Int32 × tw_Sg) → Option (Nat × tw_Sg)) (a3 : Int32 × tw_Sg) =>
if (a3.2 14 0) ≤ a3.1 then (some (140, a3.2))
else (tw_bd (tw_P_X1_isUsed 14 a3.1 a3.2) (fun r5 =>
tw_jn (fun (a6 : tw_Sg) =>
tw_lt (a3.1 + (1 : Int32)) (fun (v8 : Int32) =>
k4 (v8, a6))) (fun (j7 : (tw_Sg) → Option (Nat × tw_Sg)) =>
if r5 = 0 then (j7 a3.2)
else (tw_bd (tw_P_X10_region a3.1 a3.2) (fun r9 =>
tw_ck (decide (tw_kd r9 = 0)) (
tw_bd (tw_P_X0_keepOnly n 140 r9 a3.2) (fun r11 =>
j7 r11)))))))) n (v2, r1)))
theorem tw_y_X8_candidates : tw_My yX8_candidates cX8_candidates 2 (some (.object "TreasureWalk$Cells")) 0 := ⟨List.mem_of_getElem? tw_w1184, List.mem_of_getElem? tw_w44, by decide +kernel, by decide +kernel, by decide +kernel⟩
theorem tw_v_X8_candidates : tw_Mv yX8_candidates "TreasureWalk$Survey" := ⟨List.mem_of_getElem? tw_w1182, List.mem_of_getElem? tw_w1183, rfl⟩
set_option maxRecDepth 100000 in
set_option maxHeartbeats 4000000 in
theorem tw_m_X8_candidates {l : Launch} {B : Nat} {D : tw_G} {C : Nat → ClassId} {S : Nat → Nat} {n : Nat}  {σ : tw_Sg}  {r : Nat × tw_Sg} (h : tw_P_X8_candidates n σ = some r) : tw_Met l B D C S yX8_candidates cX8_candidates 2 (some (.object "TreasureWalk$Cells")) ({ frames := 2, cells := 0, slots := 0, locals := 81 } : Room) [.ref (B + 134)] σ (some (.ref (B + r.1))) r.2 := by
  refine tw_metOfP (tw_P_X8_candidates n σ) r h (fun r => (some (.ref (B + r.1)), r.2)) (by decide +kernel) (Nat.le_of_ble_eq_true rfl) ⟨rfl, rfl⟩ ?_
  intro z el eB eD eC eS hfr hlo hcs X hret hQ
  subst el eB eD eC eS
  have X : tw_X z cX8_candidates "TreasureWalk$Survey" 2 := X
  show tw_Rf z r _ σ 0 [(0, .ref (tw_zB z + 134))] []
  unfold tw_P_X8_candidates
  refine r_aload_n X dX8_candidates_0 rfl 0 rfl ?_
  refine tw_g8_3 (k := 134) (v := .ref (tw_zB z + 140)) X dX8_candidates_1 _ tw_w328 tw_kc134 rfl ?_
  refine r_aload_n X dX8_candidates_4 rfl 0 rfl ?_
  refine tw_g8_0 (k := 134) (v := .ref (tw_zB z + 1)) X dX8_candidates_5 _ tw_w325 tw_kc134 rfl ?_
  refine tw_g2_2N (k := 1) (v := .ref (tw_zB z + 2)) X dX8_candidates_8 _ tw_w171 tw_kc1 rfl ?_
  refine r_bd (fun r1 hr1 => ?_)
  refine tw_c_X0_copyFrom X dX8_candidates_11 _ tw_w1185 tw_kc140 tw_kc2 hr1 (tw_le hfr rfl) (tw_le hlo rfl) hcs (Nat.le_of_ble_eq_true rfl) trivial ?_
  refine r_iconst X dX8_candidates_14 (v := (0 : Int32)) (by decide) ?_
  refine r_istore_n X dX8_candidates_15 rfl (by decide) (LL := fun v2 => [(1, .int v2), (0, .ref (tw_zB z + 134))]) (fun _ => rfl) (fun v2 => ?_)
  refine r_lp (α := Int32 × tw_Sg) (σJ := fun a3 => a3.2) (pcJ := 16) (LJ := fun a3 => [(1, .int a3.1), (0, .ref (tw_zB z + 134))]) (stJ := fun a3 => []) (fun k4 hk4 a3 => ?_) n (v2, r1)
  refine r_iload_n X dX8_candidates_16 rfl 0 rfl ?_
  refine r_aload_n X dX8_candidates_17 rfl 1 rfl ?_
  refine tw_g8_0 (k := 134) (v := .ref (tw_zB z + 1)) X dX8_candidates_18 _ tw_w325 tw_kc134 rfl ?_
  refine tw_g2_9N (k := 1) (v := .ref (tw_zB z + 14)) X dX8_candidates_21 _ tw_w193 tw_kc1 rfl ?_
  refine tw_g1_0N (k := 14) (v := .int (a3.2 14 0)) X dX8_candidates_24 _ tw_w114 tw_kc14 rfl ?_
  refine r_icmp_ge X dX8_candidates_27 (tgt := 65) (by decide) ?_ ?_
  ·
    refine r_aload_n X dX8_candidates_65 rfl 1 rfl ?_
    refine tw_g8_3 (k := 134) (v := .ref (tw_zB z + 140)) X dX8_candidates_66 _ tw_w328 tw_kc134 rfl ?_
    exact r_aret X dX8_candidates_69 hret hQ rfl
  ·
    refine r_aload_n X dX8_candidates_30 rfl 1 rfl ?_
    refine tw_g8_0 (k := 134) (v := .ref (tw_zB z + 1)) X dX8_candidates_31 _ tw_w325 tw_kc134 rfl ?_
    refine tw_g2_9N (k := 1) (v := .ref (tw_zB z + 14)) X dX8_candidates_34 _ tw_w193 tw_kc1 rfl ?_
    refine r_iload_n X dX8_candidates_37 rfl 0 rfl ?_
    refine r_bd (fun r5 hr5 => ?_)
    refine tw_c_X1_isUsed X dX8_candidates_38 _ tw_w1186 tw_kc14 hr5 (tw_le hfr rfl) (tw_le hlo rfl) hcs (Nat.le_of_ble_eq_true rfl) trivial ?_
    refine r_jn (α := tw_Sg) (σJ := fun a6 => a6) (pcJ := 59) (LJ := fun a6 => [(1, .int a3.1), (0, .ref (tw_zB z + 134))]) (stJ := fun a6 => []) (ok := fun a6 => True) (fun a6 hoka6 => ?_) (fun j7 hj7 => ?_)
    ·
      refine r_iinc X dX8_candidates_59 0 rfl (v := (1 : Int32)) (by decide) (by decide) (LL := fun v8 => [(1, .int v8), (0, .ref (tw_zB z + 134))]) (fun _ => rfl) (fun v8 => ?_)
      refine r_goto X dX8_candidates_62 (tgt := 16) (by decide) ?_
      exact hk4 (v8, a6)
    refine r_if_eq X dX8_candidates_41 (tgt := 59) (by decide) ?_ ?_
    ·
      exact hj7 a3.2 trivial
    ·
      refine r_aload_n X dX8_candidates_44 rfl 1 rfl ?_
      refine tw_g8_3 (k := 134) (v := .ref (tw_zB z + 140)) X dX8_candidates_45 _ tw_w328 tw_kc134 rfl ?_
      refine r_aload_n X dX8_candidates_48 rfl 1 rfl ?_
      refine tw_g8_1 (k := 134) (v := .ref (tw_zB z + 33)) X dX8_candidates_49 _ tw_w326 tw_kc134 rfl ?_
      refine r_iload_n X dX8_candidates_52 rfl 0 rfl ?_
      refine r_bd (fun r9 hr9 => ?_)
      refine tw_c_X10_region X dX8_candidates_53 _ tw_w1190  hr9 (tw_le hfr rfl) (tw_le hlo rfl) hcs (Nat.le_of_ble_eq_true rfl) trivial ?_
      refine r_ck (fun h10 => ?_)
      refine r_bd (fun r11 hr11 => ?_)
      refine tw_c_X0_keepOnly X dX8_candidates_56 _ tw_w1191 tw_kc140 (of_decide_eq_true h10) hr11 (tw_le hfr rfl) (tw_le hlo rfl) hcs (Nat.le_of_ble_eq_true rfl) trivial ?_
      exact hj7 r11 trivial
theorem tw_c_X8_candidates {ρ : Type} {z : tw_Z} {cc : ByteArray} {own : String} {nL pc : Nat} {σ : tw_Sg} {L : List (Nat × Value)} {st : List Value} {ix : Nat} {n : Nat}  (X : tw_X z cc own nL) (d : decode cc pc = .ok (.invokevirtual ix, 3)) (i : Nat) (hi : lw_tbl[i]? = some (.methodLink own ix yX8_candidates))  {res : ρ} {E : Option ρ} {r : Nat × tw_Sg} (h : tw_P_X8_candidates n σ = some r) (h1 : 3 ≤ (tw_zR z).frames) (h2 : 102 ≤ (tw_zR z).locals) (hcs : tw_zcells z ≤ (tw_zR z).cells ∧ tw_zslots z ≤ (tw_zR z).slots) (hst : (st.map fun v => v.category).sum ≤ 8) (_ : True) (kk : tw_Rf z res E r.2 (pc + 3) L (.ref (tw_zB z + r.1) :: st)) : tw_Rf z res E σ pc L (.ref (tw_zB z + 134) :: st) := r_callV (As := []) X d (tw_m_X8_candidates  h) tw_y_X8_candidates tw_v_X8_candidates i hi rfl (tw_kd_lt tw_kc134 (by decide)) (tw_E8 tw_kc134) rfl ⟨rfl, rfl, h1, h2⟩ hcs hst rfl kk
