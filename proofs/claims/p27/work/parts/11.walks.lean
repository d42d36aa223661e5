def tw_P_X11_spotAt (x0 : Int32) (x1 : Int32) (σ : tw_Sg) : Option (Int32) :=
some ((((x1 + (1 : Int32)) * (32 : Int32)) + x0) + (1 : Int32))
theorem tw_y_X11_spotAt : tw_My yX11_spotAt cX11_spotAt 2 (some .int) 2 := ⟨List.mem_of_getElem? tw_w248, List.mem_of_getElem? tw_w36, by decide +kernel, by decide +kernel, by decide +kernel⟩
theorem tw_v_X11_spotAt : tw_Ms yX11_spotAt := List.mem_of_getElem? tw_w247
set_option maxRecDepth 100000 in
set_option maxHeartbeats 4000000 in
theorem tw_m_X11_spotAt {l : Launch} {B : Nat} {D : tw_G} {C : Nat → ClassId} {S : Nat → Nat} {x0 : Int32} {x1 : Int32} {σ : tw_Sg}  {r : Int32} (h : tw_P_X11_spotAt x0 x1 σ = some r) : tw_Met l B D C S yX11_spotAt cX11_spotAt 2 (some .int) ({ frames := 0, cells := 0, slots := 0, locals := 0 } : Room) [.int x0, .int x1] σ (some (.int r)) σ := by
  refine tw_metOfP (tw_P_X11_spotAt x0 x1 σ) r h (fun r => (some (.int r), σ)) (by decide +kernel) (Nat.le_of_ble_eq_true rfl) ⟨rfl, rfl⟩ ?_
  intro z el eB eD eC eS hfr hlo hcs X hret hQ
  subst el eB eD eC eS
  have X : tw_X z cX11_spotAt "TreasureWalk" 2 := X
  show tw_Rf z r _ σ 0 [(0, .int x0), (1, .int x1)] []
  unfold tw_P_X11_spotAt
  refine r_iload_n X dX11_spotAt_0 rfl 1 rfl ?_
  refine r_iconst X dX11_spotAt_1 (v := (1 : Int32)) (by decide) ?_
  refine r_iadd X dX11_spotAt_2 ?_
  refine r_bipush X dX11_spotAt_3 (v := (32 : Int32)) (by decide) ?_
  refine r_imul X dX11_spotAt_5 ?_
  refine r_iload_n X dX11_spotAt_6 rfl 0 rfl ?_
  refine r_iadd X dX11_spotAt_7 ?_
  refine r_iconst X dX11_spotAt_8 (v := (1 : Int32)) (by decide) ?_
  refine r_iadd X dX11_spotAt_9 ?_
  exact r_iret X dX11_spotAt_10 hret hQ rfl
theorem tw_c_X11_spotAt {ρ : Type} {z : tw_Z} {cc : ByteArray} {own : String} {nL pc : Nat} {σ : tw_Sg} {L : List (Nat × Value)} {st : List Value} {ix : Nat} {x0 : Int32} {x1 : Int32} (X : tw_X z cc own nL) (d : decode cc pc = .ok (.invokestatic ix, 3)) (i : Nat) (hi : lw_tbl[i]? = some (.methodLink own ix yX11_spotAt))  {res : ρ} {E : Option ρ} {r : Int32} (h : tw_P_X11_spotAt x0 x1 σ = some r) (h1 : 1 ≤ (tw_zR z).frames) (h2 : 21 ≤ (tw_zR z).locals) (hcs : tw_zcells z ≤ (tw_zR z).cells ∧ tw_zslots z ≤ (tw_zR z).slots) (hst : (st.map fun v => v.category).sum ≤ 8) (_ : True) (kk : tw_Rf z res E σ (pc + 3) L (.int r :: st)) : tw_Rf z res E σ pc L (.int x1 :: .int x0 :: st) := r_callS (As := [.int x0, .int x1]) X d (tw_m_X11_spotAt  h) tw_y_X11_spotAt tw_v_X11_spotAt i hi rfl ⟨rfl, rfl, h1, h2⟩ hcs hst rfl kk
theorem tw_c_X11_spotAtn {ρ : Type} {z : tw_Z} {cc : ByteArray} {own : String} {nL pc : Nat} {σ : tw_Sg} {L : List (Nat × Value)} {st : List Value} {ix : Nat} {host : String} {x0 : Int32} {x1 : Int32} (X : tw_X z cc own nL) (d : decode cc pc = .ok (.invokestatic ix, 3)) (i : Nat) (hi : lw_tbl[i]? = some (.methodLinkNest own ix yX11_spotAt host))  {res : ρ} {E : Option ρ} {r : Int32} (h : tw_P_X11_spotAt x0 x1 σ = some r) (h1 : 1 ≤ (tw_zR z).frames) (h2 : 21 ≤ (tw_zR z).locals) (hcs : tw_zcells z ≤ (tw_zR z).cells ∧ tw_zslots z ≤ (tw_zR z).slots) (hst : (st.map fun v => v.category).sum ≤ 8) (_ : True) (kk : tw_Rf z res E σ (pc + 3) L (.int r :: st)) : tw_Rf z res E σ pc L (.int x1 :: .int x0 :: st) := r_callSN (As := [.int x0, .int x1]) X d (tw_m_X11_spotAt  h) tw_y_X11_spotAt tw_v_X11_spotAt i hi rfl ⟨rfl, rfl, h1, h2⟩ hcs hst rfl kk
def tw_P_X2_begin (n : Nat) (th : Nat) (x0 : Int32) (x1 : Int32) (σ : tw_Sg) : Option (tw_Sg) :=
tw_lt (tw_up σ th 0 x0) (fun (σ1 : tw_Sg) =>
tw_lt (tw_up σ1 th 1 x1) (fun (σ2 : tw_Sg) =>
tw_bd (tw_P_X0_clear n (th + 1) σ2) (fun r3 =>
tw_lt (0 : Int32) (fun (v4 : Int32) =>
tw_lp (fun (k6 : (Int32 × tw_Sg) → Option (tw_Sg)) (a5 : Int32 × tw_Sg) =>
tw_jn (fun (a7 : Unit) =>
tw_bd (tw_P_X0_clear n (th + 3) a5.2) (fun r9 =>
tw_bd (tw_P_X7_fill n (th + 5) (0 : Int32) r9) (fun r10 =>
tw_lt (tw_up r10 th 5 (0 : Int32)) (fun (σ11 : tw_Sg) =>
tw_bd (tw_P_X1_clear n (th + 13) σ11) (fun r12 =>
tw_lt (tw_up r12 th 10 (0 : Int32)) (fun (σ13 : tw_Sg) =>
tw_lt (tw_up σ13 th 11 (0 : Int32)) (fun (σ14 : tw_Sg) =>
tw_lt (tw_up σ14 th 12 (0 : Int32)) (fun (σ15 : tw_Sg) =>
tw_lt (tw_up σ15 th 13 (0 : Int32)) (fun (σ16 : tw_Sg) =>
some σ16))))))))) (fun (j8 : (Unit) → Option (tw_Sg)) =>
if (a5.2 th 1) ≤ a5.1 then (j8 ())
else (if (20 : Int32) ≤ a5.1 then (j8 ())
else (tw_lt (0 : Int32) (fun (v17 : Int32) =>
tw_lp (fun (k19 : (Int32 × Int32 × tw_Sg) → Option (tw_Sg)) (a18 : Int32 × Int32 × tw_Sg) =>
tw_jn (fun (a20 : Unit) =>
tw_lt (a18.1 + (1 : Int32)) (fun (v22 : Int32) =>
k6 (v22, a18.2.2))) (fun (j21 : (Unit) → Option (tw_Sg)) =>
if (a18.2.2 th 0) ≤ a18.2.1 then (j21 ())
else (if (20 : Int32) ≤ a18.2.1 then (j21 ())
else (tw_bd (tw_P_X11_spotAt a18.2.1 a18.1 a18.2.2) (fun r23 =>
tw_bd (tw_P_X0_add (th + 1) r23 a18.2.2) (fun r24 =>
tw_lt (a18.2.1 + (1 : Int32)) (fun (v25 : Int32) =>
k19 (a18.1, v25, r24)))))))) n (a5.1, v17, a5.2)))))) n (v4, r3)))))
theorem tw_y_X2_begin : tw_My yX2_begin cX2_begin 5 none 2 := ⟨List.mem_of_getElem? tw_w238, List.mem_of_getElem? tw_w37, by decide +kernel, by decide +kernel, by decide +kernel⟩
theorem tw_v_X2_begin : tw_Mv yX2_begin "TreasureWalk$Data" := ⟨List.mem_of_getElem? tw_w236, List.mem_of_getElem? tw_w237, rfl⟩
set_option maxRecDepth 100000 in
set_option maxHeartbeats 4000000 in
theorem tw_m_X2_begin {l : Launch} {B : Nat} {D : tw_G} {C : Nat → ClassId} {S : Nat → Nat} {n : Nat} {th : Nat} {x0 : Int32} {x1 : Int32} {σ : tw_Sg} (hth : tw_kd th = 2) {r : tw_Sg} (h : tw_P_X2_begin n th x0 x1 σ = some r) : tw_Met l B D C S yX2_begin cX2_begin 5 none ({ frames := 3, cells := 0, slots := 0, locals := 64 } : Room) [.ref (B + th), .int x0, .int x1] σ (none) r := by
  refine tw_metOfP (tw_P_X2_begin n th x0 x1 σ) r h (fun r => (none, r)) (by decide +kernel) (Nat.le_of_ble_eq_true rfl) ⟨rfl, rfl⟩ ?_
  intro z el eB eD eC eS hfr hlo hcs X hret hQ
  subst el eB eD eC eS
  have X : tw_X z cX2_begin "TreasureWalk$Data" 5 := X
  show tw_Rf z r _ σ 0 [(0, .ref (tw_zB z + th)), (1, .int x0), (2, .int x1)] []
  unfold tw_P_X2_begin
  refine r_aload_n X dX2_begin_0 rfl 0 rfl ?_
  refine r_iload_n X dX2_begin_1 rfl 1 rfl ?_
  refine tw_s2_0 (k := th) X dX2_begin_2 _ tw_w164 hth (fun σ1 => ?_)
  refine r_aload_n X dX2_begin_5 rfl 0 rfl ?_
  refine r_iload_n X dX2_begin_6 rfl 2 rfl ?_
  refine tw_s2_1 (k := th) X dX2_begin_7 _ tw_w167 hth (fun σ2 => ?_)
  refine r_aload_n X dX2_begin_10 rfl 0 rfl ?_
  refine tw_g2_2 (k := th) (v := .ref (tw_zB z + (th + 1))) X dX2_begin_11 _ tw_w170 hth rfl ?_
  refine r_bd (fun r3 hr3 => ?_)
  refine tw_c_X0_clear X dX2_begin_14 _ tw_w239 (tw_k2_2 hth) hr3 (tw_le hfr rfl) (tw_le hlo rfl) hcs (Nat.le_of_ble_eq_true rfl) trivial ?_
  refine r_iconst X dX2_begin_17 (v := (0 : Int32)) (by decide) ?_
  refine r_istore_n X dX2_begin_18 rfl (by decide) (LL := fun v4 => [(3, .int v4), (0, .ref (tw_zB z + th)), (1, .int x0), (2, .int x1)]) (fun _ => rfl) (fun v4 => ?_)
  refine tw_Rf.sub [0, 1] rfl ?_
  refine r_lp (α := Int32 × tw_Sg) (σJ := fun a5 => a5.2) (pcJ := 19) (LJ := fun a5 => [(3, .int a5.1), (0, .ref (tw_zB z + th))]) (stJ := fun a5 => []) (fun k6 hk6 a5 => ?_) n (v4, r3)
  refine r_iload_n X dX2_begin_19 rfl 0 rfl ?_
  refine r_aload_n X dX2_begin_20 rfl 1 rfl ?_
  refine tw_g2_1 (k := th) (v := .int (a5.2 th 1)) X dX2_begin_21 _ tw_w167 hth rfl ?_
  refine r_jn (α := Unit) (σJ := fun a7 => a5.2) (pcJ := 77) (LJ := fun a7 => [(0, .ref (tw_zB z + th))]) (stJ := fun a7 => []) (ok := fun a7 => True) (fun a7 hoka7 => ?_) (fun j8 hj8 => ?_)
  ·
    refine r_aload_n X dX2_begin_77 rfl 0 rfl ?_
    refine tw_g2_3 (k := th) (v := .ref (tw_zB z + (th + 3))) X dX2_begin_78 _ tw_w175 hth rfl ?_
    refine r_bd (fun r9 hr9 => ?_)
    refine tw_c_X0_clear X dX2_begin_81 _ tw_w239 (tw_k2_3 hth) hr9 (tw_le hfr rfl) (tw_le hlo rfl) hcs (Nat.le_of_ble_eq_true rfl) trivial ?_
    refine r_aload_n X dX2_begin_84 rfl 0 rfl ?_
    refine tw_g2_4 (k := th) (v := .ref (tw_zB z + (th + 5))) X dX2_begin_85 _ tw_w178 hth rfl ?_
    refine r_iconst X dX2_begin_88 (v := (0 : Int32)) (by decide) ?_
    refine r_bd (fun r10 hr10 => ?_)
    refine tw_c_X7_fill X dX2_begin_89 _ tw_w253 (tw_k2_4 hth) hr10 (tw_le hfr rfl) (tw_le hlo rfl) hcs (Nat.le_of_ble_eq_true rfl) trivial ?_
    refine r_aload_n X dX2_begin_92 rfl 0 rfl ?_
    refine r_iconst X dX2_begin_93 (v := (0 : Int32)) (by decide) ?_
    refine tw_s2_5 (k := th) X dX2_begin_94 _ tw_w182 hth (fun σ11 => ?_)
    refine r_aload_n X dX2_begin_97 rfl 0 rfl ?_
    refine tw_g2_9 (k := th) (v := .ref (tw_zB z + (th + 13))) X dX2_begin_98 _ tw_w192 hth rfl ?_
    refine r_bd (fun r12 hr12 => ?_)
    refine tw_c_X1_clear X dX2_begin_101 _ tw_w258 (tw_k2_9 hth) hr12 (tw_le hfr rfl) (tw_le hlo rfl) hcs (Nat.le_of_ble_eq_true rfl) trivial ?_
    refine r_aload_n X dX2_begin_104 rfl 0 rfl ?_
    refine r_iconst X dX2_begin_105 (v := (0 : Int32)) (by decide) ?_
    refine tw_s2_10 (k := th) X dX2_begin_106 _ tw_w198 hth (fun σ13 => ?_)
    refine r_aload_n X dX2_begin_109 rfl 0 rfl ?_
    refine r_iconst X dX2_begin_110 (v := (0 : Int32)) (by decide) ?_
    refine tw_s2_11 (k := th) X dX2_begin_111 _ tw_w200 hth (fun σ14 => ?_)
    refine r_aload_n X dX2_begin_114 rfl 0 rfl ?_
    refine r_iconst X dX2_begin_115 (v := (0 : Int32)) (by decide) ?_
    refine tw_s2_12 (k := th) X dX2_begin_116 _ tw_w202 hth (fun σ15 => ?_)
    refine r_aload_n X dX2_begin_119 rfl 0 rfl ?_
    refine r_iconst X dX2_begin_120 (v := (0 : Int32)) (by decide) ?_
    refine tw_s2_13 (k := th) X dX2_begin_121 _ tw_w204 hth (fun σ16 => ?_)
    exact r_vret X dX2_begin_124 hret hQ rfl
  refine r_icmp_ge X dX2_begin_24 (tgt := 77) (by decide) ?_ ?_
  ·
    exact tw_Rf.sub [1] rfl (hj8 () trivial)
  ·
    refine r_iload_n X dX2_begin_27 rfl 0 rfl ?_
    refine r_bipush X dX2_begin_28 (v := (20 : Int32)) (by decide) ?_
    refine r_icmp_ge X dX2_begin_30 (tgt := 77) (by decide) ?_ ?_
    ·
      exact tw_Rf.sub [1] rfl (hj8 () trivial)
    ·
      refine r_iconst X dX2_begin_33 (v := (0 : Int32)) (by decide) ?_
      refine r_istore X dX2_begin_34 (by decide) (LL := fun v17 => [(4, .int v17), (3, .int a5.1), (0, .ref (tw_zB z + th))]) (fun _ => rfl) (fun v17 => ?_)
      refine r_lp (α := Int32 × Int32 × tw_Sg) (σJ := fun a18 => a18.2.2) (pcJ := 36) (LJ := fun a18 => [(4, .int a18.2.1), (3, .int a18.1), (0, .ref (tw_zB z + th))]) (stJ := fun a18 => []) (fun k19 hk19 a18 => ?_) n (a5.1, v17, a5.2)
      refine r_iload X dX2_begin_36 0 rfl ?_
      refine r_aload_n X dX2_begin_38 rfl 2 rfl ?_
      refine tw_g2_0 (k := th) (v := .int (a18.2.2 th 0)) X dX2_begin_39 _ tw_w164 hth rfl ?_
      refine r_jn (α := Unit) (σJ := fun a20 => a18.2.2) (pcJ := 71) (LJ := fun a20 => [(3, .int a18.1), (0, .ref (tw_zB z + th))]) (stJ := fun a20 => []) (ok := fun a20 => True) (fun a20 hoka20 => ?_) (fun j21 hj21 => ?_)
      ·
        refine r_iinc X dX2_begin_71 0 rfl (v := (1 : Int32)) (by decide) (by decide) (LL := fun v22 => [(3, .int v22), (0, .ref (tw_zB z + th))]) (fun _ => rfl) (fun v22 => ?_)
        refine r_goto X dX2_begin_74 (tgt := 19) (by decide) ?_
        exact hk6 (v22, a18.2.2)
      refine r_icmp_ge X dX2_begin_42 (tgt := 71) (by decide) ?_ ?_
      ·
        exact tw_Rf.sub [1, 2] rfl (hj21 () trivial)
      ·
        refine r_iload X dX2_begin_45 0 rfl ?_
        refine r_bipush X dX2_begin_47 (v := (20 : Int32)) (by decide) ?_
        refine r_icmp_ge X dX2_begin_49 (tgt := 71) (by decide) ?_ ?_
        ·
          exact tw_Rf.sub [1, 2] rfl (hj21 () trivial)
        ·
          refine r_aload_n X dX2_begin_52 rfl 2 rfl ?_
          refine tw_g2_2 (k := th) (v := .ref (tw_zB z + (th + 1))) X dX2_begin_53 _ tw_w170 hth rfl ?_
          refine r_iload X dX2_begin_56 0 rfl ?_
          refine r_iload_n X dX2_begin_58 rfl 1 rfl ?_
          refine r_bd (fun r23 hr23 => ?_)
          refine tw_c_X11_spotAtn X dX2_begin_59 _ tw_w246  hr23 (tw_le hfr rfl) (tw_le hlo rfl) hcs (Nat.le_of_ble_eq_true rfl) trivial ?_
          refine r_bd (fun r24 hr24 => ?_)
          refine tw_c_X0_add X dX2_begin_62 _ tw_w249 (tw_k2_2 hth) hr24 (tw_le hfr rfl) (tw_le hlo rfl) hcs (Nat.le_of_ble_eq_true rfl) trivial ?_
          refine r_iinc X dX2_begin_65 0 rfl (v := (1 : Int32)) (by decide) (by decide) (LL := fun v25 => [(4, .int v25), (3, .int a18.1), (0, .ref (tw_zB z + th))]) (fun _ => rfl) (fun v25 => ?_)
          refine r_goto X dX2_begin_68 (tgt := 36) (by decide) ?_
          exact hk19 (a18.1, v25, r24)
theorem tw_c_X2_begin {ρ : Type} {z : tw_Z} {cc : ByteArray} {own : String} {nL pc : Nat} {σ : tw_Sg} {L : List (Nat × Value)} {st : List Value} {ix : Nat} {n : Nat} {th : Nat} {x0 : Int32} {x1 : Int32} (X : tw_X z cc own nL) (d : decode cc pc = .ok (.invokevirtual ix, 3)) (i : Nat) (hi : lw_tbl[i]? = some (.methodLink own ix yX2_begin)) (hth : tw_kd th = 2) {res : ρ} {E : Option ρ} {r : tw_Sg} (h : tw_P_X2_begin n th x0 x1 σ = some r) (h1 : 4 ≤ (tw_zR z).frames) (h2 : 88 ≤ (tw_zR z).locals) (hcs : tw_zcells z ≤ (tw_zR z).cells ∧ tw_zslots z ≤ (tw_zR z).slots) (hst : (st.map fun v => v.category).sum ≤ 8) (_ : True) (kk : tw_Rf z res E r (pc + 3) L (st)) : tw_Rf z res E σ pc L (.int x1 :: .int x0 :: .ref (tw_zB z + th) :: st) := r_callV (As := [.int x0, .int x1]) X d (tw_m_X2_begin hth h) tw_y_X2_begin tw_v_X2_begin i hi rfl (tw_kd_lt hth (by decide)) (tw_E2 hth) rfl ⟨rfl, rfl, h1, h2⟩ hcs hst rfl kk
def tw_P_X11_rowOf (x0 : Int32) (σ : tw_Sg) : Option (Int32) :=
some (x0 >>> ((5 : Int32) &&& 31))
theorem tw_y_X11_rowOf : tw_My yX11_rowOf cX11_rowOf 1 (some .int) 1 := ⟨List.mem_of_getElem? tw_w529, List.mem_of_getElem? tw_w36, by decide +kernel, by decide +kernel, by decide +kernel⟩
theorem tw_v_X11_rowOf : tw_Ms yX11_rowOf := List.mem_of_getElem? tw_w528
set_option maxRecDepth 100000 in
set_option maxHeartbeats 4000000 in
theorem tw_m_X11_rowOf {l : Launch} {B : Nat} {D : tw_G} {C : Nat → ClassId} {S : Nat → Nat} {x0 : Int32} {σ : tw_Sg}  {r : Int32} (h : tw_P_X11_rowOf x0 σ = some r) : tw_Met l B D C S yX11_rowOf cX11_rowOf 1 (some .int) ({ frames := 0, cells := 0, slots := 0, locals := 0 } : Room) [.int x0] σ (some (.int r)) σ := by
  refine tw_metOfP (tw_P_X11_rowOf x0 σ) r h (fun r => (some (.int r), σ)) (by decide +kernel) (Nat.le_of_ble_eq_true rfl) ⟨rfl, rfl⟩ ?_
  intro z el eB eD eC eS hfr hlo hcs X hret hQ
  subst el eB eD eC eS
  have X : tw_X z cX11_rowOf "TreasureWalk" 1 := X
  show tw_Rf z r _ σ 0 [(0, .int x0)] []
  unfold tw_P_X11_rowOf
  refine r_iload_n X dX11_rowOf_0 rfl 0 rfl ?_
  refine r_iconst X dX11_rowOf_1 (v := (5 : Int32)) (by decide) ?_
  refine r_ishr X dX11_rowOf_2 ?_
  exact r_iret X dX11_rowOf_3 hret hQ rfl
theorem tw_c_X11_rowOf {ρ : Type} {z : tw_Z} {cc : ByteArray} {own : String} {nL pc : Nat} {σ : tw_Sg} {L : List (Nat × Value)} {st : List Value} {ix : Nat} {x0 : Int32} (X : tw_X z cc own nL) (d : decode cc pc = .ok (.invokestatic ix, 3)) (i : Nat) (hi : lw_tbl[i]? = some (.methodLink own ix yX11_rowOf))  {res : ρ} {E : Option ρ} {r : Int32} (h : tw_P_X11_rowOf x0 σ = some r) (h1 : 1 ≤ (tw_zR z).frames) (h2 : 20 ≤ (tw_zR z).locals) (hcs : tw_zcells z ≤ (tw_zR z).cells ∧ tw_zslots z ≤ (tw_zR z).slots) (hst : (st.map fun v => v.category).sum ≤ 8) (_ : True) (kk : tw_Rf z res E σ (pc + 3) L (.int r :: st)) : tw_Rf z res E σ pc L (.int x0 :: st) := r_callS (As := [.int x0]) X d (tw_m_X11_rowOf  h) tw_y_X11_rowOf tw_v_X11_rowOf i hi rfl ⟨rfl, rfl, h1, h2⟩ hcs hst rfl kk
theorem tw_c_X11_rowOfn {ρ : Type} {z : tw_Z} {cc : ByteArray} {own : String} {nL pc : Nat} {σ : tw_Sg} {L : List (Nat × Value)} {st : List Value} {ix : Nat} {host : String} {x0 : Int32} (X : tw_X z cc own nL) (d : decode cc pc = .ok (.invokestatic ix, 3)) (i : Nat) (hi : lw_tbl[i]? = some (.methodLinkNest own ix yX11_rowOf host))  {res : ρ} {E : Option ρ} {r : Int32} (h : tw_P_X11_rowOf x0 σ = some r) (h1 : 1 ≤ (tw_zR z).frames) (h2 : 20 ≤ (tw_zR z).locals) (hcs : tw_zcells z ≤ (tw_zR z).cells ∧ tw_zslots z ≤ (tw_zR z).slots) (hst : (st.map fun v => v.category).sum ≤ 8) (_ : True) (kk : tw_Rf z res E σ (pc + 3) L (.int r :: st)) : tw_Rf z res E σ pc L (.int x0 :: st) := r_callSN (As := [.int x0]) X d (tw_m_X11_rowOf  h) tw_y_X11_rowOf tw_v_X11_rowOf i hi rfl ⟨rfl, rfl, h1, h2⟩ hcs hst rfl kk
def tw_P_X11_columnOf (x0 : Int32) (σ : tw_Sg) : Option (Int32) :=
some (x0 &&& (31 : Int32))
theorem tw_y_X11_columnOf : tw_My yX11_columnOf cX11_columnOf 1 (some .int) 1 := ⟨List.mem_of_getElem? tw_w526, List.mem_of_getElem? tw_w36, by decide +kernel, by decide +kernel, by decide +kernel⟩
theorem tw_v_X11_columnOf : tw_Ms yX11_columnOf := List.mem_of_getElem? tw_w525
set_option maxRecDepth 100000 in
set_option maxHeartbeats 4000000 in
theorem tw_m_X11_columnOf {l : Launch} {B : Nat} {D : tw_G} {C : Nat → ClassId} {S : Nat → Nat} {x0 : Int32} {σ : tw_Sg}  {r : Int32} (h : tw_P_X11_columnOf x0 σ = some r) : tw_Met l B D C S yX11_columnOf cX11_columnOf 1 (some .int) ({ frames := 0, cells := 0, slots := 0, locals := 0 } : Room) [.int x0] σ (some (.int r)) σ := by
  refine tw_metOfP (tw_P_X11_columnOf x0 σ) r h (fun r => (some (.int r), σ)) (by decide +kernel) (Nat.le_of_ble_eq_true rfl) ⟨rfl, rfl⟩ ?_
  intro z el eB eD eC eS hfr hlo hcs X hret hQ
  subst el eB eD eC eS
  have X : tw_X z cX11_columnOf "TreasureWalk" 1 := X
  show tw_Rf z r _ σ 0 [(0, .int x0)] []
  unfold tw_P_X11_columnOf
  refine r_iload_n X dX11_columnOf_0 rfl 0 rfl ?_
  refine r_bipush X dX11_columnOf_1 (v := (31 : Int32)) (by decide) ?_
  refine r_iand X dX11_columnOf_3 ?_
  exact r_iret X dX11_columnOf_4 hret hQ rfl
theorem tw_c_X11_columnOf {ρ : Type} {z : tw_Z} {cc : ByteArray} {own : String} {nL pc : Nat} {σ : tw_Sg} {L : List (Nat × Value)} {st : List Value} {ix : Nat} {x0 : Int32} (X : tw_X z cc own nL) (d : decode cc pc = .ok (.invokestatic ix, 3)) (i : Nat) (hi : lw_tbl[i]? = some (.methodLink own ix yX11_columnOf))  {res : ρ} {E : Option ρ} {r : Int32} (h : tw_P_X11_columnOf x0 σ = some r) (h1 : 1 ≤ (tw_zR z).frames) (h2 : 20 ≤ (tw_zR z).locals) (hcs : tw_zcells z ≤ (tw_zR z).cells ∧ tw_zslots z ≤ (tw_zR z).slots) (hst : (st.map fun v => v.category).sum ≤ 8) (_ : True) (kk : tw_Rf z res E σ (pc + 3) L (.int r :: st)) : tw_Rf z res E σ pc L (.int x0 :: st) := r_callS (As := [.int x0]) X d (tw_m_X11_columnOf  h) tw_y_X11_columnOf tw_v_X11_columnOf i hi rfl ⟨rfl, rfl, h1, h2⟩ hcs hst rfl kk
theorem tw_c_X11_columnOfn {ρ : Type} {z : tw_Z} {cc : ByteArray} {own : String} {nL pc : Nat} {σ : tw_Sg} {L : List (Nat × Value)} {st : List Value} {ix : Nat} {host : String} {x0 : Int32} (X : tw_X z cc own nL) (d : decode cc pc = .ok (.invokestatic ix, 3)) (i : Nat) (hi : lw_tbl[i]? = some (.methodLinkNest own ix yX11_columnOf host))  {res : ρ} {E : Option ρ} {r : Int32} (h : tw_P_X11_columnOf x0 σ = some r) (h1 : 1 ≤ (tw_zR z).frames) (h2 : 20 ≤ (tw_zR z).locals) (hcs : tw_zcells z ≤ (tw_zR z).cells ∧ tw_zslots z ≤ (tw_zR z).slots) (hst : (st.map fun v => v.category).sum ≤ 8) (_ : True) (kk : tw_Rf z res E σ (pc + 3) L (.int r :: st)) : tw_Rf z res E σ pc L (.int x0 :: st) := r_callSN (As := [.int x0]) X d (tw_m_X11_columnOf  h) tw_y_X11_columnOf tw_v_X11_columnOf i hi rfl ⟨rfl, rfl, h1, h2⟩ hcs hst rfl kk
def tw_P_X2_numberOf (th : Nat) (x0 : Int32) (σ : tw_Sg) : Option (Int32) :=
tw_jn (fun (a1 : Int32) =>
some a1) (fun (j2 : (Int32) → Option (Int32)) =>
if ¬ x0 = 0 then (tw_bd (tw_P_X11_rowOf x0 σ) (fun r3 =>
tw_bd (tw_P_X11_columnOf x0 σ) (fun r4 =>
j2 ((((r3 - (1 : Int32)) * (σ th 0)) + r4) - (1 : Int32)))))
else (j2 (-1 : Int32)))
theorem tw_y_X2_numberOf : tw_My yX2_numberOf cX2_numberOf 2 (some .int) 1 := ⟨List.mem_of_getElem? tw_w1067, List.mem_of_getElem? tw_w37, by decide +kernel, by decide +kernel, by decide +kernel⟩
theorem tw_v_X2_numberOf : tw_Mv yX2_numberOf "TreasureWalk$Data" := ⟨List.mem_of_getElem? tw_w1065, List.mem_of_getElem? tw_w1066, rfl⟩
set_option maxRecDepth 100000 in
set_option maxHeartbeats 4000000 in
theorem tw_m_X2_numberOf {l : Launch} {B : Nat} {D : tw_G} {C : Nat → ClassId} {S : Nat → Nat} {th : Nat} {x0 : Int32} {σ : tw_Sg} (hth : tw_kd th = 2) {r : Int32} (h : tw_P_X2_numberOf th x0 σ = some r) : tw_Met l B D C S yX2_numberOf cX2_numberOf 2 (some .int) ({ frames := 1, cells := 0, slots := 0, locals := 20 } : Room) [.ref (B + th), .int x0] σ (some (.int r)) σ := by
  refine tw_metOfP (tw_P_X2_numberOf th x0 σ) r h (fun r => (some (.int r), σ)) (by decide +kernel) (Nat.le_of_ble_eq_true rfl) ⟨rfl, rfl⟩ ?_
  intro z el eB eD eC eS hfr hlo hcs X hret hQ
  subst el eB eD eC eS
  have X : tw_X z cX2_numberOf "TreasureWalk$Data" 2 := X
  show tw_Rf z r _ σ 0 [(0, .ref (tw_zB z + th)), (1, .int x0)] []
  unfold tw_P_X2_numberOf
  refine r_iload_n X dX2_numberOf_0 rfl 1 rfl ?_
  refine r_jn (α := Int32) (σJ := fun a1 => σ) (pcJ := 26) (LJ := fun a1 => []) (stJ := fun a1 => [.int a1]) (ok := fun a1 => True) (fun a1 hoka1 => ?_) (fun j2 hj2 => ?_)
  ·
    exact r_iret X dX2_numberOf_26 hret hQ rfl
  refine r_if_ne X dX2_numberOf_1 (tgt := 8) (by decide) ?_ ?_
  ·
    refine r_iload_n X dX2_numberOf_8 rfl 1 rfl ?_
    refine r_bd (fun r3 hr3 => ?_)
    refine tw_c_X11_rowOfn X dX2_numberOf_9 _ tw_w1068  hr3 (tw_le hfr rfl) (tw_le hlo rfl) hcs (Nat.le_of_ble_eq_true rfl) trivial ?_
    refine r_iconst X dX2_numberOf_12 (v := (1 : Int32)) (by decide) ?_
    refine r_isub X dX2_numberOf_13 ?_
    refine r_aload_n X dX2_numberOf_14 rfl 0 rfl ?_
    refine tw_g2_0 (k := th) (v := .int (σ th 0)) X dX2_numberOf_15 _ tw_w164 hth rfl ?_
    refine r_imul X dX2_numberOf_18 ?_
    refine r_iload_n X dX2_numberOf_19 rfl 1 rfl ?_
    refine r_bd (fun r4 hr4 => ?_)
    refine tw_c_X11_columnOfn X dX2_numberOf_20 _ tw_w1069  hr4 (tw_le hfr rfl) (tw_le hlo rfl) hcs (Nat.le_of_ble_eq_true rfl) trivial ?_
    refine r_iadd X dX2_numberOf_23 ?_
    refine r_iconst X dX2_numberOf_24 (v := (1 : Int32)) (by decide) ?_
    refine r_isub X dX2_numberOf_25 ?_
    exact tw_Rf.sub [] rfl (hj2 ((((r3 - (1 : Int32)) * (σ th 0)) + r4) - (1 : Int32)) trivial)
  ·
    refine r_iconst X dX2_numberOf_4 (v := (-1 : Int32)) (by decide) ?_
    refine r_goto X dX2_numberOf_5 (tgt := 26) (by decide) ?_
    exact tw_Rf.sub [] rfl (hj2 (-1 : Int32) trivial)
theorem tw_c_X2_numberOf {ρ : Type} {z : tw_Z} {cc : ByteArray} {own : String} {nL pc : Nat} {σ : tw_Sg} {L : List (Nat × Value)} {st : List Value} {ix : Nat} {th : Nat} {x0 : Int32} (X : tw_X z cc own nL) (d : decode cc pc = .ok (.invokevirtual ix, 3)) (i : Nat) (hi : lw_tbl[i]? = some (.methodLink own ix yX2_numberOf)) (hth : tw_kd th = 2) {res : ρ} {E : Option ρ} {r : Int32} (h : tw_P_X2_numberOf th x0 σ = some r) (h1 : 2 ≤ (tw_zR z).frames) (h2 : 41 ≤ (tw_zR z).locals) (hcs : tw_zcells z ≤ (tw_zR z).cells ∧ tw_zslots z ≤ (tw_zR z).slots) (hst : (st.map fun v => v.category).sum ≤ 8) (_ : True) (kk : tw_Rf z res E σ (pc + 3) L (.int r :: st)) : tw_Rf z res E σ pc L (.int x0 :: .ref (tw_zB z + th) :: st) := r_callV (As := [.int x0]) X d (tw_m_X2_numberOf hth h) tw_y_X2_numberOf tw_v_X2_numberOf i hi rfl (tw_kd_lt hth (by decide)) (tw_E2 hth) rfl ⟨rfl, rfl, h1, h2⟩ hcs hst rfl kk
def tw_P_X2_countMarks (n : Nat) (th : Nat) (σ : tw_Sg) : Option (Int32) :=
tw_lt (0 : Int32) (fun (v1 : Int32) =>
tw_lt (0 : Int32) (fun (v2 : Int32) =>
tw_lp (fun (k4 : (Int32 × Int32) → Option (Int32)) (a3 : Int32 × Int32) =>
if (8 : Int32) ≤ a3.2 then (some a3.1)
else (tw_bd (tw_P_X7_get (th + 5) a3.2 σ) (fun r5 =>
tw_jn (fun (a6 : Int32) =>
tw_lt (a3.1 + a6) (fun (v8 : Int32) =>
tw_lt (a3.2 + (1 : Int32)) (fun (v9 : Int32) =>
k4 (v8, v9)))) (fun (j7 : (Int32) → Option (Int32)) =>
if ¬ r5 = 0 then (j7 (1 : Int32))
else (j7 (0 : Int32)))))) n (v1, v2)))
theorem tw_y_X2_countMarks : tw_My yX2_countMarks cX2_countMarks 3 (some .int) 0 := ⟨List.mem_of_getElem? tw_w1557, List.mem_of_getElem? tw_w37, by decide +kernel, by decide +kernel, by decide +kernel⟩
theorem tw_v_X2_countMarks : tw_Mv yX2_countMarks "TreasureWalk$Data" := ⟨List.mem_of_getElem? tw_w1555, List.mem_of_getElem? tw_w1556, rfl⟩
set_option maxRecDepth 100000 in
set_option maxHeartbeats 4000000 in
theorem tw_m_X2_countMarks {l : Launch} {B : Nat} {D : tw_G} {C : Nat → ClassId} {S : Nat → Nat} {n : Nat} {th : Nat} {σ : tw_Sg} (hth : tw_kd th = 2) {r : Int32} (h : tw_P_X2_countMarks n th σ = some r) : tw_Met l B D C S yX2_countMarks cX2_countMarks 3 (some .int) ({ frames := 1, cells := 0, slots := 0, locals := 21 } : Room) [.ref (B + th)] σ (some (.int r)) σ := by
  refine tw_metOfP (tw_P_X2_countMarks n th σ) r h (fun r => (some (.int r), σ)) (by decide +kernel) (Nat.le_of_ble_eq_true rfl) ⟨rfl, rfl⟩ ?_
  intro z el eB eD eC eS hfr hlo hcs X hret hQ
  subst el eB eD eC eS
  have X : tw_X z cX2_countMarks "TreasureWalk$Data" 3 := X
  show tw_Rf z r _ σ 0 [(0, .ref (tw_zB z + th))] []
  unfold tw_P_X2_countMarks
  refine r_iconst X dX2_countMarks_0 (v := (0 : Int32)) (by decide) ?_
  refine r_istore_n X dX2_countMarks_1 rfl (by decide) (LL := fun v1 => [(1, .int v1), (0, .ref (tw_zB z + th))]) (fun _ => rfl) (fun v1 => ?_)
  refine r_iconst X dX2_countMarks_2 (v := (0 : Int32)) (by decide) ?_
  refine r_istore_n X dX2_countMarks_3 rfl (by decide) (LL := fun v2 => [(2, .int v2), (1, .int v1), (0, .ref (tw_zB z + th))]) (fun _ => rfl) (fun v2 => ?_)
  refine r_lp (α := Int32 × Int32) (σJ := fun a3 => σ) (pcJ := 4) (LJ := fun a3 => [(2, .int a3.2), (1, .int a3.1), (0, .ref (tw_zB z + th))]) (stJ := fun a3 => []) (fun k4 hk4 a3 => ?_) n (v1, v2)
  refine r_iload_n X dX2_countMarks_4 rfl 0 rfl ?_
  refine r_bipush X dX2_countMarks_5 (v := (8 : Int32)) (by decide) ?_
  refine r_icmp_ge X dX2_countMarks_7 (tgt := 35) (by decide) ?_ ?_
  ·
    refine r_iload_n X dX2_countMarks_35 rfl 1 rfl ?_
    exact r_iret X dX2_countMarks_36 hret hQ rfl
  ·
    refine r_iload_n X dX2_countMarks_10 rfl 1 rfl ?_
    refine r_aload_n X dX2_countMarks_11 rfl 2 rfl ?_
    refine tw_g2_4 (k := th) (v := .ref (tw_zB z + (th + 5))) X dX2_countMarks_12 _ tw_w178 hth rfl ?_
    refine r_iload_n X dX2_countMarks_15 rfl 0 rfl ?_
    refine r_bd (fun r5 hr5 => ?_)
    refine tw_c_X7_get X dX2_countMarks_16 _ tw_w925 (tw_k2_4 hth) hr5 (tw_le hfr rfl) (tw_le hlo rfl) hcs (Nat.le_of_ble_eq_true rfl) trivial ?_
    refine r_jn (α := Int32) (σJ := fun a6 => σ) (pcJ := 27) (LJ := fun a6 => [(2, .int a3.2), (0, .ref (tw_zB z + th))]) (stJ := fun a6 => [.int a6, .int a3.1]) (ok := fun a6 => True) (fun a6 hoka6 => ?_) (fun j7 hj7 => ?_)
    ·
      refine r_iadd X dX2_countMarks_27 ?_
      refine r_istore_n X dX2_countMarks_28 rfl (by decide) (LL := fun v8 => [(1, .int v8), (2, .int a3.2), (0, .ref (tw_zB z + th))]) (fun _ => rfl) (fun v8 => ?_)
      refine r_iinc X dX2_countMarks_29 1 rfl (v := (1 : Int32)) (by decide) (by decide) (LL := fun v9 => [(2, .int v9), (1, .int v8), (0, .ref (tw_zB z + th))]) (fun _ => rfl) (fun v9 => ?_)
      refine r_goto X dX2_countMarks_32 (tgt := 4) (by decide) ?_
      exact hk4 (v8, v9)
    refine r_if_ne X dX2_countMarks_19 (tgt := 26) (by decide) ?_ ?_
    ·
      refine r_iconst X dX2_countMarks_26 (v := (1 : Int32)) (by decide) ?_
      exact tw_Rf.sub [0, 2] rfl (hj7 (1 : Int32) trivial)
    ·
      refine r_iconst X dX2_countMarks_22 (v := (0 : Int32)) (by decide) ?_
      refine r_goto X dX2_countMarks_23 (tgt := 27) (by decide) ?_
      exact tw_Rf.sub [0, 2] rfl (hj7 (0 : Int32) trivial)
theorem tw_c_X2_countMarks {ρ : Type} {z : tw_Z} {cc : ByteArray} {own : String} {nL pc : Nat} {σ : tw_Sg} {L : List (Nat × Value)} {st : List Value} {ix : Nat} {n : Nat} {th : Nat} (X : tw_X z cc own nL) (d : decode cc pc = .ok (.invokevirtual ix, 3)) (i : Nat) (hi : lw_tbl[i]? = some (.methodLink own ix yX2_countMarks)) (hth : tw_kd th = 2) {res : ρ} {E : Option ρ} {r : Int32} (h : tw_P_X2_countMarks n th σ = some r) (h1 : 2 ≤ (tw_zR z).frames) (h2 : 43 ≤ (tw_zR z).locals) (hcs : tw_zcells z ≤ (tw_zR z).cells ∧ tw_zslots z ≤ (tw_zR z).slots) (hst : (st.map fun v => v.category).sum ≤ 8) (_ : True) (kk : tw_Rf z res E σ (pc + 3) L (.int r :: st)) : tw_Rf z res E σ pc L (.ref (tw_zB z + th) :: st) := r_callV (As := []) X d (tw_m_X2_countMarks hth h) tw_y_X2_countMarks tw_v_X2_countMarks i hi rfl (tw_kd_lt hth (by decide)) (tw_E2 hth) rfl ⟨rfl, rfl, h1, h2⟩ hcs hst rfl kk
def tw_P_X11_isBetween (x0 : Int32) (x1 : Int32) (x2 : Int32) (σ : tw_Sg) : Option (Int32) :=
tw_bd (tw_P_X11_columnOf x2 σ) (fun r1 =>
tw_bd (tw_P_X11_columnOf x0 σ) (fun r2 =>
tw_jn (fun (a3 : Int32) =>
tw_ck (tw_01 a3) (some a3)) (fun (j4 : (Int32) → Option (Int32)) =>
tw_jn (fun (a5 : Unit) =>
j4 (0 : Int32)) (fun (j6 : (Unit) → Option (Int32)) =>
if r1 < r2 then (j6 ())
else (tw_bd (tw_P_X11_columnOf x2 σ) (fun r7 =>
tw_bd (tw_P_X11_columnOf x1 σ) (fun r8 =>
if r8 < r7 then (j6 ())
else (tw_bd (tw_P_X11_rowOf x2 σ) (fun r9 =>
tw_bd (tw_P_X11_rowOf x0 σ) (fun r10 =>
if r9 < r10 then (j6 ())
else (tw_bd (tw_P_X11_rowOf x2 σ) (fun r11 =>
tw_bd (tw_P_X11_rowOf x1 σ) (fun r12 =>
if r12 < r11 then (j6 ())
else (j4 (1 : Int32)))))))))))))))
theorem tw_y_X11_isBetween : tw_My yX11_isBetween cX11_isBetween 3 (some .boolean) 3 := ⟨List.mem_of_getElem? tw_w523, List.mem_of_getElem? tw_w36, by decide +kernel, by decide +kernel, by decide +kernel⟩
theorem tw_v_X11_isBetween : tw_Ms yX11_isBetween := List.mem_of_getElem? tw_w522
set_option maxRecDepth 100000 in
set_option maxHeartbeats 4000000 in
theorem tw_m_X11_isBetween {l : Launch} {B : Nat} {D : tw_G} {C : Nat → ClassId} {S : Nat → Nat} {x0 : Int32} {x1 : Int32} {x2 : Int32} {σ : tw_Sg}  {r : Int32} (h : tw_P_X11_isBetween x0 x1 x2 σ = some r) : tw_Met l B D C S yX11_isBetween cX11_isBetween 3 (some .boolean) ({ frames := 1, cells := 0, slots := 0, locals := 20 } : Room) [.int x0, .int x1, .int x2] σ (some (.int r)) σ := by
  refine tw_metOfP (tw_P_X11_isBetween x0 x1 x2 σ) r h (fun r => (some (.int r), σ)) (by decide +kernel) (Nat.le_of_ble_eq_true rfl) ⟨rfl, rfl⟩ ?_
  intro z el eB eD eC eS hfr hlo hcs X hret hQ
  subst el eB eD eC eS
  have X : tw_X z cX11_isBetween "TreasureWalk" 3 := X
  show tw_Rf z r _ σ 0 [(0, .int x0), (1, .int x1), (2, .int x2)] []
  unfold tw_P_X11_isBetween
  refine r_iload_n X dX11_isBetween_0 rfl 2 rfl ?_
  refine r_bd (fun r1 hr1 => ?_)
  refine tw_c_X11_columnOf X dX11_isBetween_1 _ tw_w524  hr1 (tw_le hfr rfl) (tw_le hlo rfl) hcs (Nat.le_of_ble_eq_true rfl) trivial ?_
  refine r_iload_n X dX11_isBetween_4 rfl 0 rfl ?_
  refine r_bd (fun r2 hr2 => ?_)
  refine tw_c_X11_columnOf X dX11_isBetween_5 _ tw_w524  hr2 (tw_le hfr rfl) (tw_le hlo rfl) hcs (Nat.le_of_ble_eq_true rfl) trivial ?_
  refine r_jn (α := Int32) (σJ := fun a3 => σ) (pcJ := 49) (LJ := fun a3 => []) (stJ := fun a3 => [.int a3]) (ok := fun a3 => True) (fun a3 hoka3 => ?_) (fun j4 hj4 => ?_)
  ·
    exact r_zret X dX11_isBetween_49 hret hQ rfl
  refine r_jn (α := Unit) (σJ := fun a5 => σ) (pcJ := 48) (LJ := fun a5 => []) (stJ := fun a5 => []) (ok := fun a5 => True) (fun a5 hoka5 => ?_) (fun j6 hj6 => ?_)
  ·
    refine r_iconst X dX11_isBetween_48 (v := (0 : Int32)) (by decide) ?_
    exact hj4 (0 : Int32) trivial
  refine r_icmp_lt X dX11_isBetween_8 (tgt := 48) (by decide) ?_ ?_
  ·
    exact tw_Rf.sub [] rfl (hj6 () trivial)
  ·
    refine r_iload_n X dX11_isBetween_11 rfl 2 rfl ?_
    refine r_bd (fun r7 hr7 => ?_)
    refine tw_c_X11_columnOf X dX11_isBetween_12 _ tw_w524  hr7 (tw_le hfr rfl) (tw_le hlo rfl) hcs (Nat.le_of_ble_eq_true rfl) trivial ?_
    refine r_iload_n X dX11_isBetween_15 rfl 1 rfl ?_
    refine r_bd (fun r8 hr8 => ?_)
    refine tw_c_X11_columnOf X dX11_isBetween_16 _ tw_w524  hr8 (tw_le hfr rfl) (tw_le hlo rfl) hcs (Nat.le_of_ble_eq_true rfl) trivial ?_
    refine r_icmp_gt X dX11_isBetween_19 (tgt := 48) (by decide) ?_ ?_
    ·
      exact tw_Rf.sub [] rfl (hj6 () trivial)
    ·
      refine r_iload_n X dX11_isBetween_22 rfl 2 rfl ?_
      refine r_bd (fun r9 hr9 => ?_)
      refine tw_c_X11_rowOf X dX11_isBetween_23 _ tw_w527  hr9 (tw_le hfr rfl) (tw_le hlo rfl) hcs (Nat.le_of_ble_eq_true rfl) trivial ?_
      refine r_iload_n X dX11_isBetween_26 rfl 0 rfl ?_
      refine r_bd (fun r10 hr10 => ?_)
      refine tw_c_X11_rowOf X dX11_isBetween_27 _ tw_w527  hr10 (tw_le hfr rfl) (tw_le hlo rfl) hcs (Nat.le_of_ble_eq_true rfl) trivial ?_
      refine r_icmp_lt X dX11_isBetween_30 (tgt := 48) (by decide) ?_ ?_
      ·
        exact tw_Rf.sub [] rfl (hj6 () trivial)
      ·
        refine r_iload_n X dX11_isBetween_33 rfl 2 rfl ?_
        refine r_bd (fun r11 hr11 => ?_)
        refine tw_c_X11_rowOf X dX11_isBetween_34 _ tw_w527  hr11 (tw_le hfr rfl) (tw_le hlo rfl) hcs (Nat.le_of_ble_eq_true rfl) trivial ?_
        refine r_iload_n X dX11_isBetween_37 rfl 1 rfl ?_
        refine r_bd (fun r12 hr12 => ?_)
        refine tw_c_X11_rowOf X dX11_isBetween_38 _ tw_w527  hr12 (tw_le hfr rfl) (tw_le hlo rfl) hcs (Nat.le_of_ble_eq_true rfl) trivial ?_
        refine r_icmp_gt X dX11_isBetween_41 (tgt := 48) (by decide) ?_ ?_
        ·
          exact tw_Rf.sub [] rfl (hj6 () trivial)
        ·
          refine r_iconst X dX11_isBetween_44 (v := (1 : Int32)) (by decide) ?_
          refine r_goto X dX11_isBetween_45 (tgt := 49) (by decide) ?_
          exact tw_Rf.sub [] rfl (hj4 (1 : Int32) trivial)
theorem tw_c_X11_isBetweenn {ρ : Type} {z : tw_Z} {cc : ByteArray} {own : String} {nL pc : Nat} {σ : tw_Sg} {L : List (Nat × Value)} {st : List Value} {ix : Nat} {host : String} {x0 : Int32} {x1 : Int32} {x2 : Int32} (X : tw_X z cc own nL) (d : decode cc pc = .ok (.invokestatic ix, 3)) (i : Nat) (hi : lw_tbl[i]? = some (.methodLinkNest own ix yX11_isBetween host))  {res : ρ} {E : Option ρ} {r : Int32} (h : tw_P_X11_isBetween x0 x1 x2 σ = some r) (h1 : 2 ≤ (tw_zR z).frames) (h2 : 42 ≤ (tw_zR z).locals) (hcs : tw_zcells z ≤ (tw_zR z).cells ∧ tw_zslots z ≤ (tw_zR z).slots) (hst : (st.map fun v => v.category).sum ≤ 8) (_ : True) (kk : tw_Rf z res E σ (pc + 3) L (.int r :: st)) : tw_Rf z res E σ pc L (.int x2 :: .int x1 :: .int x0 :: st) := r_callSN (As := [.int x0, .int x1, .int x2]) X d (tw_m_X11_isBetween  h) tw_y_X11_isBetween tw_v_X11_isBetween i hi rfl ⟨rfl, rfl, h1, h2⟩ hcs hst rfl kk
def tw_P_X2_standsOnMark (n : Nat) (th : Nat) (x0 : Int32) (x1 : Int32) (σ : tw_Sg) : Option (Int32) :=
tw_lt (0 : Int32) (fun (v1 : Int32) =>
tw_lp (fun (k3 : (Int32) → Option (Int32)) (a2 : Int32) =>
if (8 : Int32) ≤ a2 then (tw_ck (tw_01 (0 : Int32)) (some (0 : Int32)))
else (tw_bd (tw_P_X7_get (th + 5) a2 σ) (fun r4 =>
tw_bd (tw_P_X11_isBetween x0 x1 r4 σ) (fun r5 =>
if r5 = 0 then (tw_lt (a2 + (1 : Int32)) (fun (v6 : Int32) =>
k3 v6))
else (tw_ck (tw_01 (1 : Int32)) (some (1 : Int32))))))) n v1)
theorem tw_y_X2_standsOnMark : tw_My yX2_standsOnMark cX2_standsOnMark 4 (some .boolean) 2 := ⟨List.mem_of_getElem? tw_w924, List.mem_of_getElem? tw_w37, by decide +kernel, by decide +kernel, by decide +kernel⟩
theorem tw_v_X2_standsOnMark : tw_Mv yX2_standsOnMark "TreasureWalk$Data" := ⟨List.mem_of_getElem? tw_w922, List.mem_of_getElem? tw_w923, rfl⟩
set_option maxRecDepth 100000 in
set_option maxHeartbeats 4000000 in
theorem tw_m_X2_standsOnMark {l : Launch} {B : Nat} {D : tw_G} {C : Nat → ClassId} {S : Nat → Nat} {n : Nat} {th : Nat} {x0 : Int32} {x1 : Int32} {σ : tw_Sg} (hth : tw_kd th = 2) {r : Int32} (h : tw_P_X2_standsOnMark n th x0 x1 σ = some r) : tw_Met l B D C S yX2_standsOnMark cX2_standsOnMark 4 (some .boolean) ({ frames := 2, cells := 0, slots := 0, locals := 42 } : Room) [.ref (B + th), .int x0, .int x1] σ (some (.int r)) σ := by
  refine tw_metOfP (tw_P_X2_standsOnMark n th x0 x1 σ) r h (fun r => (some (.int r), σ)) (by decide +kernel) (Nat.le_of_ble_eq_true rfl) ⟨rfl, rfl⟩ ?_
  intro z el eB eD eC eS hfr hlo hcs X hret hQ
  subst el eB eD eC eS
  have X : tw_X z cX2_standsOnMark "TreasureWalk$Data" 4 := X
  show tw_Rf z r _ σ 0 [(0, .ref (tw_zB z + th)), (1, .int x0), (2, .int x1)] []
  unfold tw_P_X2_standsOnMark
  refine r_iconst X dX2_standsOnMark_0 (v := (0 : Int32)) (by decide) ?_
  refine r_istore_n X dX2_standsOnMark_1 rfl (by decide) (LL := fun v1 => [(3, .int v1), (0, .ref (tw_zB z + th)), (1, .int x0), (2, .int x1)]) (fun _ => rfl) (fun v1 => ?_)
  refine r_lp (α := Int32) (σJ := fun a2 => σ) (pcJ := 2) (LJ := fun a2 => [(3, .int a2), (0, .ref (tw_zB z + th)), (1, .int x0), (2, .int x1)]) (stJ := fun a2 => []) (fun k3 hk3 a2 => ?_) n v1
  refine r_iload_n X dX2_standsOnMark_2 rfl 0 rfl ?_
  refine r_bipush X dX2_standsOnMark_3 (v := (8 : Int32)) (by decide) ?_
  refine r_icmp_ge X dX2_standsOnMark_5 (tgt := 32) (by decide) ?_ ?_
  ·
    refine r_iconst X dX2_standsOnMark_32 (v := (0 : Int32)) (by decide) ?_
    exact r_zret X dX2_standsOnMark_33 hret hQ rfl
  ·
    refine r_iload_n X dX2_standsOnMark_8 rfl 2 rfl ?_
    refine r_iload_n X dX2_standsOnMark_9 rfl 3 rfl ?_
    refine r_aload_n X dX2_standsOnMark_10 rfl 1 rfl ?_
    refine tw_g2_4 (k := th) (v := .ref (tw_zB z + (th + 5))) X dX2_standsOnMark_11 _ tw_w178 hth rfl ?_
    refine r_iload_n X dX2_standsOnMark_14 rfl 0 rfl ?_
    refine r_bd (fun r4 hr4 => ?_)
    refine tw_c_X7_get X dX2_standsOnMark_15 _ tw_w925 (tw_k2_4 hth) hr4 (tw_le hfr rfl) (tw_le hlo rfl) hcs (Nat.le_of_ble_eq_true rfl) trivial ?_
    refine r_bd (fun r5 hr5 => ?_)
    refine tw_c_X11_isBetweenn X dX2_standsOnMark_18 _ tw_w926  hr5 (tw_le hfr rfl) (tw_le hlo rfl) hcs (Nat.le_of_ble_eq_true rfl) trivial ?_
    refine r_if_eq X dX2_standsOnMark_21 (tgt := 26) (by decide) ?_ ?_
    ·
      refine r_iinc X dX2_standsOnMark_26 0 rfl (v := (1 : Int32)) (by decide) (by decide) (LL := fun v6 => [(3, .int v6), (0, .ref (tw_zB z + th)), (1, .int x0), (2, .int x1)]) (fun _ => rfl) (fun v6 => ?_)
      refine r_goto X dX2_standsOnMark_29 (tgt := 2) (by decide) ?_
      exact hk3 v6
    ·
      refine r_iconst X dX2_standsOnMark_24 (v := (1 : Int32)) (by decide) ?_
      exact r_zret X dX2_standsOnMark_25 hret hQ rfl
theorem tw_c_X2_standsOnMark {ρ : Type} {z : tw_Z} {cc : ByteArray} {own : String} {nL pc : Nat} {σ : tw_Sg} {L : List (Nat × Value)} {st : List Value} {ix : Nat} {n : Nat} {th : Nat} {x0 : Int32} {x1 : Int32} (X : tw_X z cc own nL) (d : decode cc pc = .ok (.invokevirtual ix, 3)) (i : Nat) (hi : lw_tbl[i]? = some (.methodLink own ix yX2_standsOnMark)) (hth : tw_kd th = 2) {res : ρ} {E : Option ρ} {r : Int32} (h : tw_P_X2_standsOnMark n th x0 x1 σ = some r) (h1 : 3 ≤ (tw_zR z).frames) (h2 : 65 ≤ (tw_zR z).locals) (hcs : tw_zcells z ≤ (tw_zR z).cells ∧ tw_zslots z ≤ (tw_zR z).slots) (hst : (st.map fun v => v.category).sum ≤ 8) (_ : True) (kk : tw_Rf z res E σ (pc + 3) L (.int r :: st)) : tw_Rf z res E σ pc L (.int x1 :: .int x0 :: .ref (tw_zB z + th) :: st) := r_callV (As := [.int x0, .int x1]) X d (tw_m_X2_standsOnMark hth h) tw_y_X2_standsOnMark tw_v_X2_standsOnMark i hi rfl (tw_kd_lt hth (by decide)) (tw_E2 hth) rfl ⟨rfl, rfl, h1, h2⟩ hcs hst rfl kk
def tw_P_X2_flood (n : Nat) (th : Nat) (x0 : Int32) (x1 : Int32) (σ : tw_Sg) : Option (tw_Sg) :=
tw_lt x0 (fun (v1 : Int32) =>
tw_lp (fun (k3 : (Int32 × tw_Sg) → Option (tw_Sg)) (a2 : Int32 × tw_Sg) =>
tw_jn (fun (a4 : Unit) =>
some a2.2) (fun (j5 : (Unit) → Option (tw_Sg)) =>
if x1 < a2.1 then (j5 ())
else (if (704 : Int32) ≤ a2.1 then (j5 ())
else (tw_bd (tw_P_X11_isBetween x0 x1 a2.1 a2.2) (fun r6 =>
tw_jn (fun (a7 : tw_Sg) =>
tw_lt (a2.1 + (1 : Int32)) (fun (v9 : Int32) =>
k3 (v9, a7))) (fun (j8 : (tw_Sg) → Option (tw_Sg)) =>
if r6 = 0 then (j8 a2.2)
else (tw_bd (tw_P_X0_remove (th + 1) a2.1 a2.2) (fun r10 =>
j8 r10)))))))) n (v1, σ))
theorem tw_y_X2_flood : tw_My yX2_flood cX2_flood 4 none 2 := ⟨List.mem_of_getElem? tw_w931, List.mem_of_getElem? tw_w37, by decide +kernel, by decide +kernel, by decide +kernel⟩
theorem tw_v_X2_flood : tw_Mv yX2_flood "TreasureWalk$Data" := ⟨List.mem_of_getElem? tw_w929, List.mem_of_getElem? tw_w930, rfl⟩
set_option maxRecDepth 100000 in
set_option maxHeartbeats 4000000 in
theorem tw_m_X2_flood {l : Launch} {B : Nat} {D : tw_G} {C : Nat → ClassId} {S : Nat → Nat} {n : Nat} {th : Nat} {x0 : Int32} {x1 : Int32} {σ : tw_Sg} (hth : tw_kd th = 2) {r : tw_Sg} (h : tw_P_X2_flood n th x0 x1 σ = some r) : tw_Met l B D C S yX2_flood cX2_flood 4 none ({ frames := 2, cells := 0, slots := 0, locals := 42 } : Room) [.ref (B + th), .int x0, .int x1] σ (none) r := by
  refine tw_metOfP (tw_P_X2_flood n th x0 x1 σ) r h (fun r => (none, r)) (by decide +kernel) (Nat.le_of_ble_eq_true rfl) ⟨rfl, rfl⟩ ?_
  intro z el eB eD eC eS hfr hlo hcs X hret hQ
  subst el eB eD eC eS
  have X : tw_X z cX2_flood "TreasureWalk$Data" 4 := X
  show tw_Rf z r _ σ 0 [(0, .ref (tw_zB z + th)), (1, .int x0), (2, .int x1)] []
  unfold tw_P_X2_flood
  refine r_iload_n X dX2_flood_0 rfl 1 rfl ?_
  refine r_istore_n X dX2_flood_1 rfl (by decide) (LL := fun v1 => [(3, .int v1), (0, .ref (tw_zB z + th)), (1, .int x0), (2, .int x1)]) (fun _ => rfl) (fun v1 => ?_)
  refine r_lp (α := Int32 × tw_Sg) (σJ := fun a2 => a2.2) (pcJ := 2) (LJ := fun a2 => [(3, .int a2.1), (0, .ref (tw_zB z + th)), (1, .int x0), (2, .int x1)]) (stJ := fun a2 => []) (fun k3 hk3 a2 => ?_) n (v1, σ)
  refine r_iload_n X dX2_flood_2 rfl 0 rfl ?_
  refine r_iload_n X dX2_flood_3 rfl 3 rfl ?_
  refine r_jn (α := Unit) (σJ := fun a4 => a2.2) (pcJ := 37) (LJ := fun a4 => []) (stJ := fun a4 => []) (ok := fun a4 => True) (fun a4 hoka4 => ?_) (fun j5 hj5 => ?_)
  ·
    exact r_vret X dX2_flood_37 hret hQ rfl
  refine r_icmp_gt X dX2_flood_4 (tgt := 37) (by decide) ?_ ?_
  ·
    exact tw_Rf.sub [] rfl (hj5 () trivial)
  ·
    refine r_iload_n X dX2_flood_7 rfl 0 rfl ?_
    refine r_sipush X dX2_flood_8 (v := (704 : Int32)) (by decide) ?_
    refine r_icmp_ge X dX2_flood_11 (tgt := 37) (by decide) ?_ ?_
    ·
      exact tw_Rf.sub [] rfl (hj5 () trivial)
    ·
      refine r_iload_n X dX2_flood_14 rfl 2 rfl ?_
      refine r_iload_n X dX2_flood_15 rfl 3 rfl ?_
      refine r_iload_n X dX2_flood_16 rfl 0 rfl ?_
      refine r_bd (fun r6 hr6 => ?_)
      refine tw_c_X11_isBetweenn X dX2_flood_17 _ tw_w926  hr6 (tw_le hfr rfl) (tw_le hlo rfl) hcs (Nat.le_of_ble_eq_true rfl) trivial ?_
      refine r_jn (α := tw_Sg) (σJ := fun a7 => a7) (pcJ := 31) (LJ := fun a7 => [(3, .int a2.1), (0, .ref (tw_zB z + th)), (1, .int x0), (2, .int x1)]) (stJ := fun a7 => []) (ok := fun a7 => True) (fun a7 hoka7 => ?_) (fun j8 hj8 => ?_)
      ·
        refine r_iinc X dX2_flood_31 0 rfl (v := (1 : Int32)) (by decide) (by decide) (LL := fun v9 => [(3, .int v9), (0, .ref (tw_zB z + th)), (1, .int x0), (2, .int x1)]) (fun _ => rfl) (fun v9 => ?_)
        refine r_goto X dX2_flood_34 (tgt := 2) (by decide) ?_
        exact hk3 (v9, a7)
      refine r_if_eq X dX2_flood_20 (tgt := 31) (by decide) ?_ ?_
      ·
        exact hj8 a2.2 trivial
      ·
        refine r_aload_n X dX2_flood_23 rfl 1 rfl ?_
        refine tw_g2_2 (k := th) (v := .ref (tw_zB z + (th + 1))) X dX2_flood_24 _ tw_w170 hth rfl ?_
        refine r_iload_n X dX2_flood_27 rfl 0 rfl ?_
        refine r_bd (fun r10 hr10 => ?_)
        refine tw_c_X0_remove X dX2_flood_28 _ tw_w932 (tw_k2_2 hth) hr10 (tw_le hfr rfl) (tw_le hlo rfl) hcs (Nat.le_of_ble_eq_true rfl) trivial ?_
        exact hj8 r10 trivial
theorem tw_c_X2_flood {ρ : Type} {z : tw_Z} {cc : ByteArray} {own : String} {nL pc : Nat} {σ : tw_Sg} {L : List (Nat × Value)} {st : List Value} {ix : Nat} {n : Nat} {th : Nat} {x0 : Int32} {x1 : Int32} (X : tw_X z cc own nL) (d : decode cc pc = .ok (.invokevirtual ix, 3)) (i : Nat) (hi : lw_tbl[i]? = some (.methodLink own ix yX2_flood)) (hth : tw_kd th = 2) {res : ρ} {E : Option ρ} {r : tw_Sg} (h : tw_P_X2_flood n th x0 x1 σ = some r) (h1 : 3 ≤ (tw_zR z).frames) (h2 : 65 ≤ (tw_zR z).locals) (hcs : tw_zcells z ≤ (tw_zR z).cells ∧ tw_zslots z ≤ (tw_zR z).slots) (hst : (st.map fun v => v.category).sum ≤ 8) (_ : True) (kk : tw_Rf z res E r (pc + 3) L (st)) : tw_Rf z res E σ pc L (.int x1 :: .int x0 :: .ref (tw_zB z + th) :: st) := r_callV (As := [.int x0, .int x1]) X d (tw_m_X2_flood hth h) tw_y_X2_flood tw_v_X2_flood i hi rfl (tw_kd_lt hth (by decide)) (tw_E2 hth) rfl ⟨rfl, rfl, h1, h2⟩ hcs hst rfl kk
def tw_P_X2_addBend (th : Nat) (x0 : Int32) (x1 : Int32) (x2 : Int32) (σ : tw_Sg) : Option (tw_Sg) :=
tw_bd (tw_P_X7_put (th + 7) (σ th 5) x0 σ) (fun r1 =>
tw_bd (tw_P_X7_put (th + 9) (r1 th 5) x1 r1) (fun r2 =>
tw_bd (tw_P_X7_put (th + 11) (r2 th 5) x2 r2) (fun r3 =>
tw_lt (tw_up r3 th 5 ((r3 th 5) + (1 : Int32))) (fun (σ4 : tw_Sg) =>
some σ4))))
theorem tw_y_X2_addBend : tw_My yX2_addBend cX2_addBend 4 none 3 := ⟨List.mem_of_getElem? tw_w956, List.mem_of_getElem? tw_w37, by decide +kernel, by decide +kernel, by decide +kernel⟩
theorem tw_v_X2_addBend : tw_Mv yX2_addBend "TreasureWalk$Data" := ⟨List.mem_of_getElem? tw_w954, List.mem_of_getElem? tw_w955, rfl⟩
set_option maxRecDepth 100000 in
set_option maxHeartbeats 4000000 in
theorem tw_m_X2_addBend {l : Launch} {B : Nat} {D : tw_G} {C : Nat → ClassId} {S : Nat → Nat} {th : Nat} {x0 : Int32} {x1 : Int32} {x2 : Int32} {σ : tw_Sg} (hth : tw_kd th = 2) {r : tw_Sg} (h : tw_P_X2_addBend th x0 x1 x2 σ = some r) : tw_Met l B D C S yX2_addBend cX2_addBend 4 none ({ frames := 1, cells := 0, slots := 0, locals := 22 } : Room) [.ref (B + th), .int x0, .int x1, .int x2] σ (none) r := by
  refine tw_metOfP (tw_P_X2_addBend th x0 x1 x2 σ) r h (fun r => (none, r)) (by decide +kernel) (Nat.le_of_ble_eq_true rfl) ⟨rfl, rfl⟩ ?_
  intro z el eB eD eC eS hfr hlo hcs X hret hQ
  subst el eB eD eC eS
  have X : tw_X z cX2_addBend "TreasureWalk$Data" 4 := X
  show tw_Rf z r _ σ 0 [(0, .ref (tw_zB z + th)), (1, .int x0), (2, .int x1), (3, .int x2)] []
  unfold tw_P_X2_addBend
  refine r_aload_n X dX2_addBend_0 rfl 0 rfl ?_
  refine tw_g2_6 (k := th) (v := .ref (tw_zB z + (th + 7))) X dX2_addBend_1 _ tw_w185 hth rfl ?_
  refine r_aload_n X dX2_addBend_4 rfl 0 rfl ?_
  refine tw_g2_5 (k := th) (v := .int (σ th 5)) X dX2_addBend_5 _ tw_w182 hth rfl ?_
  refine r_iload_n X dX2_addBend_8 rfl 1 rfl ?_
  refine r_bd (fun r1 hr1 => ?_)
  refine tw_c_X7_put X dX2_addBend_9 _ tw_w957 (tw_k2_6 hth) hr1 (tw_le hfr rfl) (tw_le hlo rfl) hcs (Nat.le_of_ble_eq_true rfl) trivial ?_
  refine r_aload_n X dX2_addBend_12 rfl 0 rfl ?_
  refine tw_g2_7 (k := th) (v := .ref (tw_zB z + (th + 9))) X dX2_addBend_13 _ tw_w187 hth rfl ?_
  refine r_aload_n X dX2_addBend_16 rfl 0 rfl ?_
  refine tw_g2_5 (k := th) (v := .int (r1 th 5)) X dX2_addBend_17 _ tw_w182 hth rfl ?_
  refine r_iload_n X dX2_addBend_20 rfl 2 rfl ?_
  refine r_bd (fun r2 hr2 => ?_)
  refine tw_c_X7_put X dX2_addBend_21 _ tw_w957 (tw_k2_7 hth) hr2 (tw_le hfr rfl) (tw_le hlo rfl) hcs (Nat.le_of_ble_eq_true rfl) trivial ?_
  refine r_aload_n X dX2_addBend_24 rfl 0 rfl ?_
  refine tw_g2_8 (k := th) (v := .ref (tw_zB z + (th + 11))) X dX2_addBend_25 _ tw_w189 hth rfl ?_
  refine r_aload_n X dX2_addBend_28 rfl 0 rfl ?_
  refine tw_g2_5 (k := th) (v := .int (r2 th 5)) X dX2_addBend_29 _ tw_w182 hth rfl ?_
  refine r_iload_n X dX2_addBend_32 rfl 3 rfl ?_
  refine r_bd (fun r3 hr3 => ?_)
  refine tw_c_X7_put X dX2_addBend_33 _ tw_w957 (tw_k2_8 hth) hr3 (tw_le hfr rfl) (tw_le hlo rfl) hcs (Nat.le_of_ble_eq_true rfl) trivial ?_
  refine r_aload_n X dX2_addBend_36 rfl 0 rfl ?_
  refine r_dup X dX2_addBend_37 rfl ?_
  refine tw_g2_5 (k := th) (v := .int (r3 th 5)) X dX2_addBend_38 _ tw_w182 hth rfl ?_
  refine r_iconst X dX2_addBend_41 (v := (1 : Int32)) (by decide) ?_
  refine r_iadd X dX2_addBend_42 ?_
  refine tw_s2_5 (k := th) X dX2_addBend_43 _ tw_w182 hth (fun σ4 => ?_)
  exact r_vret X dX2_addBend_46 hret hQ rfl
theorem tw_c_X2_addBend {ρ : Type} {z : tw_Z} {cc : ByteArray} {own : String} {nL pc : Nat} {σ : tw_Sg} {L : List (Nat × Value)} {st : List Value} {ix : Nat} {th : Nat} {x0 : Int32} {x1 : Int32} {x2 : Int32} (X : tw_X z cc own nL) (d : decode cc pc = .ok (.invokevirtual ix, 3)) (i : Nat) (hi : lw_tbl[i]? = some (.methodLink own ix yX2_addBend)) (hth : tw_kd th = 2) {res : ρ} {E : Option ρ} {r : tw_Sg} (h : tw_P_X2_addBend th x0 x1 x2 σ = some r) (h1 : 2 ≤ (tw_zR z).frames) (h2 : 45 ≤ (tw_zR z).locals) (hcs : tw_zcells z ≤ (tw_zR z).cells ∧ tw_zslots z ≤ (tw_zR z).slots) (hst : (st.map fun v => v.category).sum ≤ 8) (_ : True) (kk : tw_Rf z res E r (pc + 3) L (st)) : tw_Rf z res E σ pc L (.int x2 :: .int x1 :: .int x0 :: .ref (tw_zB z + th) :: st) := r_callV (As := [.int x0, .int x1, .int x2]) X d (tw_m_X2_addBend hth h) tw_y_X2_addBend tw_v_X2_addBend i hi rfl (tw_kd_lt hth (by decide)) (tw_E2 hth) rfl ⟨rfl, rfl, h1, h2⟩ hcs hst rfl kk
def tw_P_X2_copyFrom (th : Nat) (r0 : Nat) (σ : tw_Sg) : Option (tw_Sg) :=
tw_lt (tw_up σ th 0 (σ r0 0)) (fun (σ1 : tw_Sg) =>
tw_lt (tw_up σ1 th 1 (σ1 r0 1)) (fun (σ2 : tw_Sg) =>
tw_bd (tw_P_X0_copyFrom (th + 1) (r0 + 1) σ2) (fun r3 =>
tw_bd (tw_P_X0_copyFrom (th + 3) (r0 + 3) r3) (fun r4 =>
tw_bd (tw_P_X7_copyFrom (th + 5) (r0 + 5) r4) (fun r5 =>
tw_lt (tw_up r5 th 5 (r5 r0 5)) (fun (σ6 : tw_Sg) =>
tw_bd (tw_P_X7_copyFrom (th + 7) (r0 + 7) σ6) (fun r7 =>
tw_bd (tw_P_X7_copyFrom (th + 9) (r0 + 9) r7) (fun r8 =>
tw_bd (tw_P_X7_copyFrom (th + 11) (r0 + 11) r8) (fun r9 =>
tw_bd (tw_P_X1_copyFrom (th + 13) (r0 + 13) r9) (fun r10 =>
tw_lt (tw_up r10 th 10 (r10 r0 10)) (fun (σ11 : tw_Sg) =>
tw_lt (tw_up σ11 th 11 (σ11 r0 11)) (fun (σ12 : tw_Sg) =>
tw_lt (tw_up σ12 th 12 (σ12 r0 12)) (fun (σ13 : tw_Sg) =>
tw_lt (tw_up σ13 th 13 (σ13 r0 13)) (fun (σ14 : tw_Sg) =>
some σ14))))))))))))))
theorem tw_y_X2_copyFrom : tw_My yX2_copyFrom cX2_copyFrom 2 none 1 := ⟨List.mem_of_getElem? tw_w472, List.mem_of_getElem? tw_w37, by decide +kernel, by decide +kernel, by decide +kernel⟩
theorem tw_v_X2_copyFrom : tw_Mv yX2_copyFrom "TreasureWalk$Data" := ⟨List.mem_of_getElem? tw_w470, List.mem_of_getElem? tw_w471, rfl⟩
set_option maxRecDepth 100000 in
set_option maxHeartbeats 4000000 in
theorem tw_m_X2_copyFrom {l : Launch} {B : Nat} {D : tw_G} {C : Nat → ClassId} {S : Nat → Nat} {th : Nat} {r0 : Nat} {σ : tw_Sg} (hth : tw_kd th = 2) (hr0 : tw_kd r0 = 2) {r : tw_Sg} (h : tw_P_X2_copyFrom th r0 σ = some r) : tw_Met l B D C S yX2_copyFrom cX2_copyFrom 2 none ({ frames := 3, cells := 0, slots := 0, locals := 103 } : Room) [.ref (B + th), .ref (B + r0)] σ (none) r := by
  refine tw_metOfP (tw_P_X2_copyFrom th r0 σ) r h (fun r => (none, r)) (by decide +kernel) (Nat.le_of_ble_eq_true rfl) ⟨rfl, rfl⟩ ?_
  intro z el eB eD eC eS hfr hlo hcs X hret hQ
  subst el eB eD eC eS
  have X : tw_X z cX2_copyFrom "TreasureWalk$Data" 2 := X
  show tw_Rf z r _ σ 0 [(0, .ref (tw_zB z + th)), (1, .ref (tw_zB z + r0))] []
  unfold tw_P_X2_copyFrom
  refine r_aload_n X dX2_copyFrom_0 rfl 0 rfl ?_
  refine r_aload_n X dX2_copyFrom_1 rfl 1 rfl ?_
  refine tw_g2_0 (k := r0) (v := .int (σ r0 0)) X dX2_copyFrom_2 _ tw_w164 hr0 rfl ?_
  refine tw_s2_0 (k := th) X dX2_copyFrom_5 _ tw_w164 hth (fun σ1 => ?_)
  refine r_aload_n X dX2_copyFrom_8 rfl 0 rfl ?_
  refine r_aload_n X dX2_copyFrom_9 rfl 1 rfl ?_
  refine tw_g2_1 (k := r0) (v := .int (σ1 r0 1)) X dX2_copyFrom_10 _ tw_w167 hr0 rfl ?_
  refine tw_s2_1 (k := th) X dX2_copyFrom_13 _ tw_w167 hth (fun σ2 => ?_)
  refine r_aload_n X dX2_copyFrom_16 rfl 0 rfl ?_
  refine tw_g2_2 (k := th) (v := .ref (tw_zB z + (th + 1))) X dX2_copyFrom_17 _ tw_w170 hth rfl ?_
  refine r_aload_n X dX2_copyFrom_20 rfl 1 rfl ?_
  refine tw_g2_2 (k := r0) (v := .ref (tw_zB z + (r0 + 1))) X dX2_copyFrom_21 _ tw_w170 hr0 rfl ?_
  refine r_bd (fun r3 hr3 => ?_)
  refine tw_c_X0_copyFrom X dX2_copyFrom_24 _ tw_w473 (tw_k2_2 hth) (tw_k2_2 hr0) hr3 (tw_le hfr rfl) (tw_le hlo rfl) hcs (Nat.le_of_ble_eq_true rfl) trivial ?_
  refine r_aload_n X dX2_copyFrom_27 rfl 0 rfl ?_
  refine tw_g2_3 (k := th) (v := .ref (tw_zB z + (th + 3))) X dX2_copyFrom_28 _ tw_w175 hth rfl ?_
  refine r_aload_n X dX2_copyFrom_31 rfl 1 rfl ?_
  refine tw_g2_3 (k := r0) (v := .ref (tw_zB z + (r0 + 3))) X dX2_copyFrom_32 _ tw_w175 hr0 rfl ?_
  refine r_bd (fun r4 hr4 => ?_)
  refine tw_c_X0_copyFrom X dX2_copyFrom_35 _ tw_w473 (tw_k2_3 hth) (tw_k2_3 hr0) hr4 (tw_le hfr rfl) (tw_le hlo rfl) hcs (Nat.le_of_ble_eq_true rfl) trivial ?_
  refine r_aload_n X dX2_copyFrom_38 rfl 0 rfl ?_
  refine tw_g2_4 (k := th) (v := .ref (tw_zB z + (th + 5))) X dX2_copyFrom_39 _ tw_w178 hth rfl ?_
  refine r_aload_n X dX2_copyFrom_42 rfl 1 rfl ?_
  refine tw_g2_4 (k := r0) (v := .ref (tw_zB z + (r0 + 5))) X dX2_copyFrom_43 _ tw_w178 hr0 rfl ?_
  refine r_bd (fun r5 hr5 => ?_)
  refine tw_c_X7_copyFrom X dX2_copyFrom_46 _ tw_w483 (tw_k2_4 hth) (tw_k2_4 hr0) hr5 (tw_le hfr rfl) (tw_le hlo rfl) hcs (Nat.le_of_ble_eq_true rfl) trivial ?_
  refine r_aload_n X dX2_copyFrom_49 rfl 0 rfl ?_
  refine r_aload_n X dX2_copyFrom_50 rfl 1 rfl ?_
  refine tw_g2_5 (k := r0) (v := .int (r5 r0 5)) X dX2_copyFrom_51 _ tw_w182 hr0 rfl ?_
  refine tw_s2_5 (k := th) X dX2_copyFrom_54 _ tw_w182 hth (fun σ6 => ?_)
  refine r_aload_n X dX2_copyFrom_57 rfl 0 rfl ?_
  refine tw_g2_6 (k := th) (v := .ref (tw_zB z + (th + 7))) X dX2_copyFrom_58 _ tw_w185 hth rfl ?_
  refine r_aload_n X dX2_copyFrom_61 rfl 1 rfl ?_
  refine tw_g2_6 (k := r0) (v := .ref (tw_zB z + (r0 + 7))) X dX2_copyFrom_62 _ tw_w185 hr0 rfl ?_
  refine r_bd (fun r7 hr7 => ?_)
  refine tw_c_X7_copyFrom X dX2_copyFrom_65 _ tw_w483 (tw_k2_6 hth) (tw_k2_6 hr0) hr7 (tw_le hfr rfl) (tw_le hlo rfl) hcs (Nat.le_of_ble_eq_true rfl) trivial ?_
  refine r_aload_n X dX2_copyFrom_68 rfl 0 rfl ?_
  refine tw_g2_7 (k := th) (v := .ref (tw_zB z + (th + 9))) X dX2_copyFrom_69 _ tw_w187 hth rfl ?_
  refine r_aload_n X dX2_copyFrom_72 rfl 1 rfl ?_
  refine tw_g2_7 (k := r0) (v := .ref (tw_zB z + (r0 + 9))) X dX2_copyFrom_73 _ tw_w187 hr0 rfl ?_
  refine r_bd (fun r8 hr8 => ?_)
  refine tw_c_X7_copyFrom X dX2_copyFrom_76 _ tw_w483 (tw_k2_7 hth) (tw_k2_7 hr0) hr8 (tw_le hfr rfl) (tw_le hlo rfl) hcs (Nat.le_of_ble_eq_true rfl) trivial ?_
  refine r_aload_n X dX2_copyFrom_79 rfl 0 rfl ?_
  refine tw_g2_8 (k := th) (v := .ref (tw_zB z + (th + 11))) X dX2_copyFrom_80 _ tw_w189 hth rfl ?_
  refine r_aload_n X dX2_copyFrom_83 rfl 1 rfl ?_
  refine tw_g2_8 (k := r0) (v := .ref (tw_zB z + (r0 + 11))) X dX2_copyFrom_84 _ tw_w189 hr0 rfl ?_
  refine r_bd (fun r9 hr9 => ?_)
  refine tw_c_X7_copyFrom X dX2_copyFrom_87 _ tw_w483 (tw_k2_8 hth) (tw_k2_8 hr0) hr9 (tw_le hfr rfl) (tw_le hlo rfl) hcs (Nat.le_of_ble_eq_true rfl) trivial ?_
  refine r_aload_n X dX2_copyFrom_90 rfl 0 rfl ?_
  refine tw_g2_9 (k := th) (v := .ref (tw_zB z + (th + 13))) X dX2_copyFrom_91 _ tw_w192 hth rfl ?_
  refine r_aload_n X dX2_copyFrom_94 rfl 1 rfl ?_
  refine tw_g2_9 (k := r0) (v := .ref (tw_zB z + (r0 + 13))) X dX2_copyFrom_95 _ tw_w192 hr0 rfl ?_
  refine r_bd (fun r10 hr10 => ?_)
  refine tw_c_X1_copyFrom X dX2_copyFrom_98 _ tw_w489 (tw_k2_9 hth) (tw_k2_9 hr0) hr10 (tw_le hfr rfl) (tw_le hlo rfl) hcs (Nat.le_of_ble_eq_true rfl) trivial ?_
  refine r_aload_n X dX2_copyFrom_101 rfl 0 rfl ?_
  refine r_aload_n X dX2_copyFrom_102 rfl 1 rfl ?_
  refine tw_g2_10 (k := r0) (v := .int (r10 r0 10)) X dX2_copyFrom_103 _ tw_w198 hr0 rfl ?_
  refine tw_s2_10 (k := th) X dX2_copyFrom_106 _ tw_w198 hth (fun σ11 => ?_)
  refine r_aload_n X dX2_copyFrom_109 rfl 0 rfl ?_
  refine r_aload_n X dX2_copyFrom_110 rfl 1 rfl ?_
  refine tw_g2_11 (k := r0) (v := .int (σ11 r0 11)) X dX2_copyFrom_111 _ tw_w200 hr0 rfl ?_
  refine tw_s2_11 (k := th) X dX2_copyFrom_114 _ tw_w200 hth (fun σ12 => ?_)
  refine r_aload_n X dX2_copyFrom_117 rfl 0 rfl ?_
  refine r_aload_n X dX2_copyFrom_118 rfl 1 rfl ?_
  refine tw_g2_12 (k := r0) (v := .int (σ12 r0 12)) X dX2_copyFrom_119 _ tw_w202 hr0 rfl ?_
  refine tw_s2_12 (k := th) X dX2_copyFrom_122 _ tw_w202 hth (fun σ13 => ?_)
  refine r_aload_n X dX2_copyFrom_125 rfl 0 rfl ?_
  refine r_aload_n X dX2_copyFrom_126 rfl 1 rfl ?_
  refine tw_g2_13 (k := r0) (v := .int (σ13 r0 13)) X dX2_copyFrom_127 _ tw_w204 hr0 rfl ?_
  refine tw_s2_13 (k := th) X dX2_copyFrom_130 _ tw_w204 hth (fun σ14 => ?_)
  exact r_vret X dX2_copyFrom_133 hret hQ rfl
theorem tw_c_X2_copyFrom {ρ : Type} {z : tw_Z} {cc : ByteArray} {own : String} {nL pc : Nat} {σ : tw_Sg} {L : List (Nat × Value)} {st : List Value} {ix : Nat} {th : Nat} {r0 : Nat} (X : tw_X z cc own nL) (d : decode cc pc = .ok (.invokevirtual ix, 3)) (i : Nat) (hi : lw_tbl[i]? = some (.methodLink own ix yX2_copyFrom)) (hth : tw_kd th = 2) (hr0 : tw_kd r0 = 2) {res : ρ} {E : Option ρ} {r : tw_Sg} (h : tw_P_X2_copyFrom th r0 σ = some r) (h1 : 4 ≤ (tw_zR z).frames) (h2 : 124 ≤ (tw_zR z).locals) (hcs : tw_zcells z ≤ (tw_zR z).cells ∧ tw_zslots z ≤ (tw_zR z).slots) (hst : (st.map fun v => v.category).sum ≤ 8) (_ : True) (kk : tw_Rf z res E r (pc + 3) L (st)) : tw_Rf z res E σ pc L (.ref (tw_zB z + r0) :: .ref (tw_zB z + th) :: st) := r_callV (As := [.ref (tw_zB z + r0)]) X d (tw_m_X2_copyFrom hth hr0 h) tw_y_X2_copyFrom tw_v_X2_copyFrom i hi rfl (tw_kd_lt hth (by decide)) (tw_E2 hth) rfl ⟨rfl, rfl, h1, h2⟩ hcs hst rfl kk
def tw_P_X3_clear (n : Nat)  (σ : tw_Sg) : Option (tw_Sg) :=
tw_bd (tw_P_X7_fill n 136 (-1 : Int32) σ) (fun r1 =>
some r1)
theorem tw_y_X3_clear : tw_My yX3_clear cX3_clear 1 none 0 := ⟨List.mem_of_getElem? tw_w1152, List.mem_of_getElem? tw_w45, by decide +kernel, by decide +kernel, by decide +kernel⟩
theorem tw_v_X3_clear : tw_Mv yX3_clear "TreasureWalk$Flood" := ⟨List.mem_of_getElem? tw_w1150, List.mem_of_getElem? tw_w1151, rfl⟩
set_option maxRecDepth 100000 in
set_option maxHeartbeats 4000000 in
theorem tw_m_X3_clear {l : Launch} {B : Nat} {D : tw_G} {C : Nat → ClassId} {S : Nat → Nat} {n : Nat}  {σ : tw_Sg}  {r : tw_Sg} (h : tw_P_X3_clear n σ = some r) : tw_Met l B D C S yX3_clear cX3_clear 1 none ({ frames := 2, cells := 0, slots := 0, locals := 44 } : Room) [.ref (B + 135)] σ (none) r := by
  refine tw_metOfP (tw_P_X3_clear n σ) r h (fun r => (none, r)) (by decide +kernel) (Nat.le_of_ble_eq_true rfl) ⟨rfl, rfl⟩ ?_
  intro z el eB eD eC eS hfr hlo hcs X hret hQ
  subst el eB eD eC eS
  have X : tw_X z cX3_clear "TreasureWalk$Flood" 1 := X
  show tw_Rf z r _ σ 0 [(0, .ref (tw_zB z + 135))] []
  unfold tw_P_X3_clear
  refine r_aload_n X dX3_clear_0 rfl 0 rfl ?_
  refine tw_g3_0 (k := 135) (v := .ref (tw_zB z + 136)) X dX3_clear_1 _ tw_w315 tw_kc135 rfl ?_
  refine r_iconst X dX3_clear_4 (v := (-1 : Int32)) (by decide) ?_
  refine r_bd (fun r1 hr1 => ?_)
  refine tw_c_X7_fill X dX3_clear_5 _ tw_w1153 tw_kc136 hr1 (tw_le hfr rfl) (tw_le hlo rfl) hcs (Nat.le_of_ble_eq_true rfl) trivial ?_
  exact r_vret X dX3_clear_8 hret hQ rfl
theorem tw_c_X3_clear {ρ : Type} {z : tw_Z} {cc : ByteArray} {own : String} {nL pc : Nat} {σ : tw_Sg} {L : List (Nat × Value)} {st : List Value} {ix : Nat} {n : Nat}  (X : tw_X z cc own nL) (d : decode cc pc = .ok (.invokevirtual ix, 3)) (i : Nat) (hi : lw_tbl[i]? = some (.methodLink own ix yX3_clear))  {res : ρ} {E : Option ρ} {r : tw_Sg} (h : tw_P_X3_clear n σ = some r) (h1 : 3 ≤ (tw_zR z).frames) (h2 : 64 ≤ (tw_zR z).locals) (hcs : tw_zcells z ≤ (tw_zR z).cells ∧ tw_zslots z ≤ (tw_zR z).slots) (hst : (st.map fun v => v.category).sum ≤ 8) (_ : True) (kk : tw_Rf z res E r (pc + 3) L (st)) : tw_Rf z res E σ pc L (.ref (tw_zB z + 135) :: st) := r_callV (As := []) X d (tw_m_X3_clear  h) tw_y_X3_clear tw_v_X3_clear i hi rfl (tw_kd_lt tw_kc135 (by decide)) (tw_E3 tw_kc135) rfl ⟨rfl, rfl, h1, h2⟩ hcs hst rfl kk
def tw_P_X11_neighbour (x0 : Int32) (x1 : Int32) (σ : tw_Sg) : Option (Int32) :=
tw_lt (x1 &&& (7 : Int32)) (fun (v1 : Int32) =>
tw_jn (fun (a2 : Int32) =>
some a2) (fun (j3 : (Int32) → Option (Int32)) =>
if (8 : Int32) ≤ v1 then (j3 (0 : Int32))
else (tw_ck (tw_ok v1 8) (
j3 (x0 + (tw_off (Int32.toNatClampNeg v1)))))))
theorem tw_y_X11_neighbour : tw_My yX11_neighbour cX11_neighbour 3 (some .int) 2 := ⟨List.mem_of_getElem? tw_w577, List.mem_of_getElem? tw_w36, by decide +kernel, by decide +kernel, by decide +kernel⟩
theorem tw_v_X11_neighbour : tw_Ms yX11_neighbour := List.mem_of_getElem? tw_w576
set_option maxRecDepth 100000 in
set_option maxHeartbeats 4000000 in
theorem tw_m_X11_neighbour {l : Launch} {B : Nat} {D : tw_G} {C : Nat → ClassId} {S : Nat → Nat} {x0 : Int32} {x1 : Int32} {σ : tw_Sg}  {r : Int32} (h : tw_P_X11_neighbour x0 x1 σ = some r) : tw_Met l B D C S yX11_neighbour cX11_neighbour 3 (some .int) ({ frames := 0, cells := 0, slots := 0, locals := 0 } : Room) [.int x0, .int x1] σ (some (.int r)) σ := by
  refine tw_metOfP (tw_P_X11_neighbour x0 x1 σ) r h (fun r => (some (.int r), σ)) (by decide +kernel) (Nat.le_of_ble_eq_true rfl) ⟨rfl, rfl⟩ ?_
  intro z el eB eD eC eS hfr hlo hcs X hret hQ
  subst el eB eD eC eS
  have X : tw_X z cX11_neighbour "TreasureWalk" 3 := X
  show tw_Rf z r _ σ 0 [(0, .int x0), (1, .int x1)] []
  unfold tw_P_X11_neighbour
  refine r_iload_n X dX11_neighbour_0 rfl 1 rfl ?_
  refine r_bipush X dX11_neighbour_1 (v := (7 : Int32)) (by decide) ?_
  refine r_iand X dX11_neighbour_3 ?_
  refine r_istore_n X dX11_neighbour_4 rfl (by decide) (LL := fun v1 => [(2, .int v1), (0, .int x0), (1, .int x1)]) (fun _ => rfl) (fun v1 => ?_)
  refine r_iload_n X dX11_neighbour_5 rfl 0 rfl ?_
  refine r_goff X dX11_neighbour_6 _ tw_w578 ?_
  refine r_loff X dX11_neighbour_9 ?_
  refine r_jn (α := Int32) (σJ := fun a2 => σ) (pcJ := 24) (LJ := fun a2 => []) (stJ := fun a2 => [.int a2]) (ok := fun a2 => True) (fun a2 hoka2 => ?_) (fun j3 hj3 => ?_)
  ·
    exact r_iret X dX11_neighbour_24 hret hQ rfl
  refine r_icmp_ge X dX11_neighbour_10 (tgt := 23) (by decide) ?_ ?_
  ·
    refine r_iconst X dX11_neighbour_23 (v := (0 : Int32)) (by decide) ?_
    exact tw_Rf.sub [] rfl (hj3 (0 : Int32) trivial)
  ·
    refine r_iload_n X dX11_neighbour_13 rfl 1 rfl ?_
    refine r_goff X dX11_neighbour_14 _ tw_w578 ?_
    refine r_iload_n X dX11_neighbour_17 rfl 0 rfl ?_
    refine r_aoff X dX11_neighbour_18 ?_
    refine r_iadd X dX11_neighbour_19 ?_
    refine r_goto X dX11_neighbour_20 (tgt := 24) (by decide) ?_
    exact tw_Rf.sub [] rfl (hj3 (x0 + (tw_off (Int32.toNatClampNeg v1))) trivial)
theorem tw_c_X11_neighbourn {ρ : Type} {z : tw_Z} {cc : ByteArray} {own : String} {nL pc : Nat} {σ : tw_Sg} {L : List (Nat × Value)} {st : List Value} {ix : Nat} {host : String} {x0 : Int32} {x1 : Int32} (X : tw_X z cc own nL) (d : decode cc pc = .ok (.invokestatic ix, 3)) (i : Nat) (hi : lw_tbl[i]? = some (.methodLinkNest own ix yX11_neighbour host))  {res : ρ} {E : Option ρ} {r : Int32} (h : tw_P_X11_neighbour x0 x1 σ = some r) (h1 : 1 ≤ (tw_zR z).frames) (h2 : 22 ≤ (tw_zR z).locals) (hcs : tw_zcells z ≤ (tw_zR z).cells ∧ tw_zslots z ≤ (tw_zR z).slots) (hst : (st.map fun v => v.category).sum ≤ 8) (_ : True) (kk : tw_Rf z res E σ (pc + 3) L (.int r :: st)) : tw_Rf z res E σ pc L (.int x1 :: .int x0 :: st) := r_callSN (As := [.int x0, .int x1]) X d (tw_m_X11_neighbour  h) tw_y_X11_neighbour tw_v_X11_neighbour i hi rfl ⟨rfl, rfl, h1, h2⟩ hcs hst rfl kk
def tw_P_X3_visitNeighbours (n : Nat) (r0 : Nat) (x1 : Int32) (x2 : Int32) (σ : tw_Sg) : Option (Int32 × tw_Sg) :=
tw_lt x2 (fun (v1 : Int32) =>
tw_lt (0 : Int32) (fun (v2 : Int32) =>
tw_lp (fun (k4 : (Int32 × Int32 × tw_Sg) → Option (Int32 × tw_Sg)) (a3 : Int32 × Int32 × tw_Sg) =>
if (8 : Int32) ≤ a3.2.1 then (some (a3.1, a3.2.2))
else (tw_bd (tw_P_X11_neighbour x1 a3.2.1 a3.2.2) (fun r5 =>
tw_lt r5 (fun (v6 : Int32) =>
tw_bd (tw_P_X0_has r0 v6 a3.2.2) (fun r7 =>
tw_jn (fun (a8 : Int32 × tw_Sg) =>
tw_lt (a3.2.1 + (1 : Int32)) (fun (v10 : Int32) =>
k4 (a8.1, v10, a8.2))) (fun (j9 : (Int32 × tw_Sg) → Option (Int32 × tw_Sg)) =>
if r7 = 0 then (j9 (a3.1, a3.2.2))
else (tw_bd (tw_P_X7_get 136 v6 a3.2.2) (fun r11 =>
if 0 ≤ r11 then (j9 (a3.1, a3.2.2))
else (tw_bd (tw_P_X7_get 136 x1 a3.2.2) (fun r12 =>
tw_bd (tw_P_X7_put 136 v6 (r12 + (1 : Int32)) a3.2.2) (fun r13 =>
tw_bd (tw_P_X7_put 138 a3.1 v6 r13) (fun r14 =>
tw_lt (a3.1 + (1 : Int32)) (fun (v15 : Int32) =>
j9 (v15, r14)))))))))))))) n (v1, v2, σ)))
theorem tw_y_X3_visitNeighbours : tw_My yX3_visitNeighbours cX3_visitNeighbours 7 (some .int) 3 := ⟨List.mem_of_getElem? tw_w1163, List.mem_of_getElem? tw_w45, by decide +kernel, by decide +kernel, by decide +kernel⟩
theorem tw_v_X3_visitNeighbours : tw_Mv yX3_visitNeighbours "TreasureWalk$Flood" := ⟨List.mem_of_getElem? tw_w1162, List.mem_of_getElem? tw_w34, rfl⟩
set_option maxRecDepth 100000 in
set_option maxHeartbeats 4000000 in
theorem tw_m_X3_visitNeighbours {l : Launch} {B : Nat} {D : tw_G} {C : Nat → ClassId} {S : Nat → Nat} {n : Nat} {r0 : Nat} {x1 : Int32} {x2 : Int32} {σ : tw_Sg} (hr0 : tw_kd r0 = 0) {r : Int32 × tw_Sg} (h : tw_P_X3_visitNeighbours n r0 x1 x2 σ = some r) : tw_Met l B D C S yX3_visitNeighbours cX3_visitNeighbours 7 (some .int) ({ frames := 1, cells := 0, slots := 0, locals := 22 } : Room) [.ref (B + 135), .ref (B + r0), .int x1, .int x2] σ (some (.int r.1)) r.2 := by
  refine tw_metOfP (tw_P_X3_visitNeighbours n r0 x1 x2 σ) r h (fun r => (some (.int r.1), r.2)) (by decide +kernel) (Nat.le_of_ble_eq_true rfl) ⟨rfl, rfl⟩ ?_
  intro z el eB eD eC eS hfr hlo hcs X hret hQ
  subst el eB eD eC eS
  have X : tw_X z cX3_visitNeighbours "TreasureWalk$Flood" 7 := X
  show tw_Rf z r _ σ 0 [(0, .ref (tw_zB z + 135)), (1, .ref (tw_zB z + r0)), (2, .int x1), (3, .int x2)] []
  unfold tw_P_X3_visitNeighbours
  refine r_iload_n X dX3_visitNeighbours_0 rfl 3 rfl ?_
  refine r_istore X dX3_visitNeighbours_1 (by decide) (LL := fun v1 => [(4, .int v1), (0, .ref (tw_zB z + 135)), (1, .ref (tw_zB z + r0)), (2, .int x1), (3, .int x2)]) (fun _ => rfl) (fun v1 => ?_)
  refine r_iconst X dX3_visitNeighbours_3 (v := (0 : Int32)) (by decide) ?_
  refine r_istore X dX3_visitNeighbours_4 (by decide) (LL := fun v2 => [(5, .int v2), (4, .int v1), (0, .ref (tw_zB z + 135)), (1, .ref (tw_zB z + r0)), (2, .int x1), (3, .int x2)]) (fun _ => rfl) (fun v2 => ?_)
  refine tw_Rf.sub [0, 1, 2, 3, 4] rfl ?_
  refine r_lp (α := Int32 × Int32 × tw_Sg) (σJ := fun a3 => a3.2.2) (pcJ := 6) (LJ := fun a3 => [(5, .int a3.2.1), (4, .int a3.1), (0, .ref (tw_zB z + 135)), (1, .ref (tw_zB z + r0)), (2, .int x1)]) (stJ := fun a3 => []) (fun k4 hk4 a3 => ?_) n (v1, v2, σ)
  refine r_iload X dX3_visitNeighbours_6 0 rfl ?_
  refine r_bipush X dX3_visitNeighbours_8 (v := (8 : Int32)) (by decide) ?_
  refine r_icmp_ge X dX3_visitNeighbours_10 (tgt := 81) (by decide) ?_ ?_
  ·
    refine r_iload X dX3_visitNeighbours_81 1 rfl ?_
    exact r_iret X dX3_visitNeighbours_83 hret hQ rfl
  ·
    refine r_iload_n X dX3_visitNeighbours_13 rfl 4 rfl ?_
    refine r_iload X dX3_visitNeighbours_14 0 rfl ?_
    refine r_bd (fun r5 hr5 => ?_)
    refine tw_c_X11_neighbourn X dX3_visitNeighbours_16 _ tw_w1164  hr5 (tw_le hfr rfl) (tw_le hlo rfl) hcs (Nat.le_of_ble_eq_true rfl) trivial ?_
    refine r_istore X dX3_visitNeighbours_19 (by decide) (LL := fun v6 => [(6, .int v6), (5, .int a3.2.1), (4, .int a3.1), (0, .ref (tw_zB z + 135)), (1, .ref (tw_zB z + r0)), (2, .int x1)]) (fun _ => rfl) (fun v6 => ?_)
    refine r_aload_n X dX3_visitNeighbours_21 rfl 4 rfl ?_
    refine r_iload X dX3_visitNeighbours_22 0 rfl ?_
    refine r_bd (fun r7 hr7 => ?_)
    refine tw_c_X0_has X dX3_visitNeighbours_24 _ tw_w1165 hr0 hr7 (tw_le hfr rfl) (tw_le hlo rfl) hcs (Nat.le_of_ble_eq_true rfl) trivial ?_
    refine r_jn (α := Int32 × tw_Sg) (σJ := fun a8 => a8.2) (pcJ := 75) (LJ := fun a8 => [(5, .int a3.2.1), (4, .int a8.1), (0, .ref (tw_zB z + 135)), (1, .ref (tw_zB z + r0)), (2, .int x1)]) (stJ := fun a8 => []) (ok := fun a8 => True) (fun a8 hoka8 => ?_) (fun j9 hj9 => ?_)
    ·
      refine r_iinc X dX3_visitNeighbours_75 0 rfl (v := (1 : Int32)) (by decide) (by decide) (LL := fun v10 => [(5, .int v10), (4, .int a8.1), (0, .ref (tw_zB z + 135)), (1, .ref (tw_zB z + r0)), (2, .int x1)]) (fun _ => rfl) (fun v10 => ?_)
      refine r_goto X dX3_visitNeighbours_78 (tgt := 6) (by decide) ?_
      exact hk4 (a8.1, v10, a8.2)
    refine r_if_eq X dX3_visitNeighbours_27 (tgt := 75) (by decide) ?_ ?_
    ·
      exact tw_Rf.sub [1, 2, 3, 4, 5] rfl (hj9 (a3.1, a3.2.2) trivial)
    ·
      refine r_aload_n X dX3_visitNeighbours_30 rfl 3 rfl ?_
      refine tw_g3_0 (k := 135) (v := .ref (tw_zB z + 136)) X dX3_visitNeighbours_31 _ tw_w315 tw_kc135 rfl ?_
      refine r_iload X dX3_visitNeighbours_34 0 rfl ?_
      refine r_bd (fun r11 hr11 => ?_)
      refine tw_c_X7_get X dX3_visitNeighbours_36 _ tw_w1159 tw_kc136 hr11 (tw_le hfr rfl) (tw_le hlo rfl) hcs (Nat.le_of_ble_eq_true rfl) trivial ?_
      refine r_if_ge X dX3_visitNeighbours_39 (tgt := 75) (by decide) ?_ ?_
      ·
        exact tw_Rf.sub [1, 2, 3, 4, 5] rfl (hj9 (a3.1, a3.2.2) trivial)
      ·
        refine r_aload_n X dX3_visitNeighbours_42 rfl 3 rfl ?_
        refine tw_g3_0 (k := 135) (v := .ref (tw_zB z + 136)) X dX3_visitNeighbours_43 _ tw_w315 tw_kc135 rfl ?_
        refine r_iload X dX3_visitNeighbours_46 0 rfl ?_
        refine r_aload_n X dX3_visitNeighbours_48 rfl 3 rfl ?_
        refine tw_g3_0 (k := 135) (v := .ref (tw_zB z + 136)) X dX3_visitNeighbours_49 _ tw_w315 tw_kc135 rfl ?_
        refine r_iload_n X dX3_visitNeighbours_52 rfl 5 rfl ?_
        refine r_bd (fun r12 hr12 => ?_)
        refine tw_c_X7_get X dX3_visitNeighbours_53 _ tw_w1159 tw_kc136 hr12 (tw_le hfr rfl) (tw_le hlo rfl) hcs (Nat.le_of_ble_eq_true rfl) trivial ?_
        refine r_iconst X dX3_visitNeighbours_56 (v := (1 : Int32)) (by decide) ?_
        refine r_iadd X dX3_visitNeighbours_57 ?_
        refine r_bd (fun r13 hr13 => ?_)
        refine tw_c_X7_put X dX3_visitNeighbours_58 _ tw_w1158 tw_kc136 hr13 (tw_le hfr rfl) (tw_le hlo rfl) hcs (Nat.le_of_ble_eq_true rfl) trivial ?_
        refine r_aload_n X dX3_visitNeighbours_61 rfl 3 rfl ?_
        refine tw_g3_1 (k := 135) (v := .ref (tw_zB z + 138)) X dX3_visitNeighbours_62 _ tw_w317 tw_kc135 rfl ?_
        refine r_iload X dX3_visitNeighbours_65 2 rfl ?_
        refine r_iload X dX3_visitNeighbours_67 0 rfl ?_
        refine r_bd (fun r14 hr14 => ?_)
        refine tw_c_X7_put X dX3_visitNeighbours_69 _ tw_w1158 tw_kc138 hr14 (tw_le hfr rfl) (tw_le hlo rfl) hcs (Nat.le_of_ble_eq_true rfl) trivial ?_
        refine r_iinc X dX3_visitNeighbours_72 2 rfl (v := (1 : Int32)) (by decide) (by decide) (LL := fun v15 => [(4, .int v15), (6, .int v6), (5, .int a3.2.1), (0, .ref (tw_zB z + 135)), (1, .ref (tw_zB z + r0)), (2, .int x1)]) (fun _ => rfl) (fun v15 => ?_)
        exact tw_Rf.sub [2, 0, 3, 4, 5] rfl (hj9 (v15, r14) trivial)
theorem tw_c_X3_visitNeighbours {ρ : Type} {z : tw_Z} {cc : ByteArray} {own : String} {nL pc : Nat} {σ : tw_Sg} {L : List (Nat × Value)} {st : List Value} {ix : Nat} {n : Nat} {r0 : Nat} {x1 : Int32} {x2 : Int32} (X : tw_X z cc own nL) (d : decode cc pc = .ok (.invokevirtual ix, 3)) (i : Nat) (hi : lw_tbl[i]? = some (.methodLink own ix yX3_visitNeighbours)) (hr0 : tw_kd r0 = 0) {res : ρ} {E : Option ρ} {r : Int32 × tw_Sg} (h : tw_P_X3_visitNeighbours n r0 x1 x2 σ = some r) (h1 : 2 ≤ (tw_zR z).frames) (h2 : 48 ≤ (tw_zR z).locals) (hcs : tw_zcells z ≤ (tw_zR z).cells ∧ tw_zslots z ≤ (tw_zR z).slots) (hst : (st.map fun v => v.category).sum ≤ 8) (_ : True) (kk : tw_Rf z res E r.2 (pc + 3) L (.int r.1 :: st)) : tw_Rf z res E σ pc L (.int x2 :: .int x1 :: .ref (tw_zB z + r0) :: .ref (tw_zB z + 135) :: st) := r_callV (As := [.ref (tw_zB z + r0), .int x1, .int x2]) X d (tw_m_X3_visitNeighbours hr0 h) tw_y_X3_visitNeighbours tw_v_X3_visitNeighbours i hi rfl (tw_kd_lt tw_kc135 (by decide)) (tw_E3 tw_kc135) rfl ⟨rfl, rfl, h1, h2⟩ hcs hst rfl kk
def tw_P_X3_spread (n : Nat) (r0 : Nat) (x1 : Int32) (σ : tw_Sg) : Option (Int32 × tw_Sg) :=
tw_bd (tw_P_X7_put 136 x1 (0 : Int32) σ) (fun r1 =>
tw_bd (tw_P_X7_put 138 (0 : Int32) x1 r1) (fun r2 =>
tw_lt (1 : Int32) (fun (v3 : Int32) =>
tw_lt (0 : Int32) (fun (v4 : Int32) =>
tw_lp (fun (k6 : (Int32 × Int32 × tw_Sg) → Option (Int32 × tw_Sg)) (a5 : Int32 × Int32 × tw_Sg) =>
tw_jn (fun (a7 : Unit) =>
some (a5.1, a5.2.2)) (fun (j8 : (Unit) → Option (Int32 × tw_Sg)) =>
if a5.1 ≤ a5.2.1 then (j8 ())
else (if (400 : Int32) ≤ a5.2.1 then (j8 ())
else (tw_bd (tw_P_X7_get 138 a5.2.1 a5.2.2) (fun r9 =>
tw_bd (tw_P_X3_visitNeighbours n r0 r9 a5.1 a5.2.2) (fun r10 =>
tw_lt r10.1 (fun (v11 : Int32) =>
tw_lt (a5.2.1 + (1 : Int32)) (fun (v12 : Int32) =>
k6 (v11, v12, r10.2))))))))) n (v3, v4, r2)))))
theorem tw_y_X3_spread : tw_My yX3_spread cX3_spread 5 (some .int) 2 := ⟨List.mem_of_getElem? tw_w1157, List.mem_of_getElem? tw_w45, by decide +kernel, by decide +kernel, by decide +kernel⟩
theorem tw_v_X3_spread : tw_Mv yX3_spread "TreasureWalk$Flood" := ⟨List.mem_of_getElem? tw_w1155, List.mem_of_getElem? tw_w1156, rfl⟩
set_option maxRecDepth 100000 in
set_option maxHeartbeats 4000000 in
theorem tw_m_X3_spread {l : Launch} {B : Nat} {D : tw_G} {C : Nat → ClassId} {S : Nat → Nat} {n : Nat} {r0 : Nat} {x1 : Int32} {σ : tw_Sg} (hr0 : tw_kd r0 = 0) {r : Int32 × tw_Sg} (h : tw_P_X3_spread n r0 x1 σ = some r) : tw_Met l B D C S yX3_spread cX3_spread 5 (some .int) ({ frames := 2, cells := 0, slots := 0, locals := 48 } : Room) [.ref (B + 135), .ref (B + r0), .int x1] σ (some (.int r.1)) r.2 := by
  refine tw_metOfP (tw_P_X3_spread n r0 x1 σ) r h (fun r => (some (.int r.1), r.2)) (by decide +kernel) (Nat.le_of_ble_eq_true rfl) ⟨rfl, rfl⟩ ?_
  intro z el eB eD eC eS hfr hlo hcs X hret hQ
  subst el eB eD eC eS
  have X : tw_X z cX3_spread "TreasureWalk$Flood" 5 := X
  show tw_Rf z r _ σ 0 [(0, .ref (tw_zB z + 135)), (1, .ref (tw_zB z + r0)), (2, .int x1)] []
  unfold tw_P_X3_spread
  refine r_aload_n X dX3_spread_0 rfl 0 rfl ?_
  refine tw_g3_0 (k := 135) (v := .ref (tw_zB z + 136)) X dX3_spread_1 _ tw_w315 tw_kc135 rfl ?_
  refine r_iload_n X dX3_spread_4 rfl 2 rfl ?_
  refine r_iconst X dX3_spread_5 (v := (0 : Int32)) (by decide) ?_
  refine r_bd (fun r1 hr1 => ?_)
  refine tw_c_X7_put X dX3_spread_6 _ tw_w1158 tw_kc136 hr1 (tw_le hfr rfl) (tw_le hlo rfl) hcs (Nat.le_of_ble_eq_true rfl) trivial ?_
  refine r_aload_n X dX3_spread_9 rfl 0 rfl ?_
  refine tw_g3_1 (k := 135) (v := .ref (tw_zB z + 138)) X dX3_spread_10 _ tw_w317 tw_kc135 rfl ?_
  refine r_iconst X dX3_spread_13 (v := (0 : Int32)) (by decide) ?_
  refine r_iload_n X dX3_spread_14 rfl 2 rfl ?_
  refine r_bd (fun r2 hr2 => ?_)
  refine tw_c_X7_put X dX3_spread_15 _ tw_w1158 tw_kc138 hr2 (tw_le hfr rfl) (tw_le hlo rfl) hcs (Nat.le_of_ble_eq_true rfl) trivial ?_
  refine r_iconst X dX3_spread_18 (v := (1 : Int32)) (by decide) ?_
  refine r_istore_n X dX3_spread_19 rfl (by decide) (LL := fun v3 => [(3, .int v3), (0, .ref (tw_zB z + 135)), (1, .ref (tw_zB z + r0)), (2, .int x1)]) (fun _ => rfl) (fun v3 => ?_)
  refine r_iconst X dX3_spread_20 (v := (0 : Int32)) (by decide) ?_
  refine r_istore X dX3_spread_21 (by decide) (LL := fun v4 => [(4, .int v4), (3, .int v3), (0, .ref (tw_zB z + 135)), (1, .ref (tw_zB z + r0)), (2, .int x1)]) (fun _ => rfl) (fun v4 => ?_)
  refine tw_Rf.sub [0, 1, 2, 3] rfl ?_
  refine r_lp (α := Int32 × Int32 × tw_Sg) (σJ := fun a5 => a5.2.2) (pcJ := 23) (LJ := fun a5 => [(4, .int a5.2.1), (3, .int a5.1), (0, .ref (tw_zB z + 135)), (1, .ref (tw_zB z + r0))]) (stJ := fun a5 => []) (fun k6 hk6 a5 => ?_) n (v3, v4, r2)
  refine r_iload X dX3_spread_23 0 rfl ?_
  refine r_iload_n X dX3_spread_25 rfl 1 rfl ?_
  refine r_jn (α := Unit) (σJ := fun a7 => a5.2.2) (pcJ := 59) (LJ := fun a7 => [(3, .int a5.1)]) (stJ := fun a7 => []) (ok := fun a7 => True) (fun a7 hoka7 => ?_) (fun j8 hj8 => ?_)
  ·
    refine r_iload_n X dX3_spread_59 rfl 0 rfl ?_
    exact r_iret X dX3_spread_60 hret hQ rfl
  refine r_icmp_ge X dX3_spread_26 (tgt := 59) (by decide) ?_ ?_
  ·
    exact tw_Rf.sub [1] rfl (hj8 () trivial)
  ·
    refine r_iload X dX3_spread_29 0 rfl ?_
    refine r_sipush X dX3_spread_31 (v := (400 : Int32)) (by decide) ?_
    refine r_icmp_ge X dX3_spread_34 (tgt := 59) (by decide) ?_ ?_
    ·
      exact tw_Rf.sub [1] rfl (hj8 () trivial)
    ·
      refine r_aload_n X dX3_spread_37 rfl 2 rfl ?_
      refine r_aload_n X dX3_spread_38 rfl 3 rfl ?_
      refine r_aload_n X dX3_spread_39 rfl 2 rfl ?_
      refine tw_g3_1 (k := 135) (v := .ref (tw_zB z + 138)) X dX3_spread_40 _ tw_w317 tw_kc135 rfl ?_
      refine r_iload X dX3_spread_43 0 rfl ?_
      refine r_bd (fun r9 hr9 => ?_)
      refine tw_c_X7_get X dX3_spread_45 _ tw_w1159 tw_kc138 hr9 (tw_le hfr rfl) (tw_le hlo rfl) hcs (Nat.le_of_ble_eq_true rfl) trivial ?_
      refine r_iload_n X dX3_spread_48 rfl 1 rfl ?_
      refine r_bd (fun r10 hr10 => ?_)
      refine tw_c_X3_visitNeighbours X dX3_spread_49 _ tw_w1160 hr0 hr10 (tw_le hfr rfl) (tw_le hlo rfl) hcs (Nat.le_of_ble_eq_true rfl) trivial ?_
      refine r_istore_n X dX3_spread_52 rfl (by decide) (LL := fun v11 => [(3, .int v11), (4, .int a5.2.1), (0, .ref (tw_zB z + 135)), (1, .ref (tw_zB z + r0))]) (fun _ => rfl) (fun v11 => ?_)
      refine r_iinc X dX3_spread_53 1 rfl (v := (1 : Int32)) (by decide) (by decide) (LL := fun v12 => [(4, .int v12), (3, .int v11), (0, .ref (tw_zB z + 135)), (1, .ref (tw_zB z + r0))]) (fun _ => rfl) (fun v12 => ?_)
      refine r_goto X dX3_spread_56 (tgt := 23) (by decide) ?_
      exact hk6 (v11, v12, r10.2)
theorem tw_c_X3_spread {ρ : Type} {z : tw_Z} {cc : ByteArray} {own : String} {nL pc : Nat} {σ : tw_Sg} {L : List (Nat × Value)} {st : List Value} {ix : Nat} {n : Nat} {r0 : Nat} {x1 : Int32} (X : tw_X z cc own nL) (d : decode cc pc = .ok (.invokevirtual ix, 3)) (i : Nat) (hi : lw_tbl[i]? = some (.methodLink own ix yX3_spread)) (hr0 : tw_kd r0 = 0) {res : ρ} {E : Option ρ} {r : Int32 × tw_Sg} (h : tw_P_X3_spread n r0 x1 σ = some r) (h1 : 3 ≤ (tw_zR z).frames) (h2 : 72 ≤ (tw_zR z).locals) (hcs : tw_zcells z ≤ (tw_zR z).cells ∧ tw_zslots z ≤ (tw_zR z).slots) (hst : (st.map fun v => v.category).sum ≤ 8) (_ : True) (kk : tw_Rf z res E r.2 (pc + 3) L (.int r.1 :: st)) : tw_Rf z res E σ pc L (.int x1 :: .ref (tw_zB z + r0) :: .ref (tw_zB z + 135) :: st) := r_callV (As := [.ref (tw_zB z + r0), .int x1]) X d (tw_m_X3_spread hr0 h) tw_y_X3_spread tw_v_X3_spread i hi rfl (tw_kd_lt tw_kc135 (by decide)) (tw_E3 tw_kc135) rfl ⟨rfl, rfl, h1, h2⟩ hcs hst rfl kk
def tw_P_X4_placeAt (x0 : Int32) (σ : tw_Sg) : Option (Option Nat) :=
tw_jn (fun (a1 : Option Nat) =>
some a1) (fun (j2 : (Option Nat) → Option (Option Nat)) =>
tw_jn (fun (a3 : Unit) =>
j2 none) (fun (j4 : (Unit) → Option (Option Nat)) =>
if x0 < 0 then (j4 ())
else (if (Int32.ofNat (tw_ln 143)) ≤ x0 then (j4 ())
else (tw_ck (tw_ok x0 (tw_ln 143)) (
j2 (some (143 + 1 + 32 * Int32.toNatClampNeg x0)))))))
theorem tw_y_X4_placeAt : tw_My yX4_placeAt cX4_placeAt 2 (some (.object "TreasureWalk$Data")) 1 := ⟨List.mem_of_getElem? tw_w468, List.mem_of_getElem? tw_w46, by decide +kernel, by decide +kernel, by decide +kernel⟩
theorem tw_v_X4_placeAt : tw_Mv yX4_placeAt "TreasureWalk$History" := ⟨List.mem_of_getElem? tw_w467, List.mem_of_getElem? tw_w0, rfl⟩
set_option maxRecDepth 100000 in
set_option maxHeartbeats 4000000 in
theorem tw_m_X4_placeAt {l : Launch} {B : Nat} {D : tw_G} {C : Nat → ClassId} {S : Nat → Nat} {x0 : Int32} {σ : tw_Sg}  {r : Option Nat} (h : tw_P_X4_placeAt x0 σ = some r) : tw_Met l B D C S yX4_placeAt cX4_placeAt 2 (some (.object "TreasureWalk$Data")) ({ frames := 0, cells := 0, slots := 0, locals := 0 } : Room) [.ref (B + 142), .int x0] σ (some (va_rf (Option.map (fun k => B + k) r))) σ := by
  refine tw_metOfP (tw_P_X4_placeAt x0 σ) r h (fun r => (some (va_rf (Option.map (fun k => B + k) r)), σ)) (by decide +kernel) (Nat.le_of_ble_eq_true rfl) ⟨rfl, rfl⟩ ?_
  intro z el eB eD eC eS hfr hlo hcs X hret hQ
  subst el eB eD eC eS
  have X : tw_X z cX4_placeAt "TreasureWalk$History" 2 := X
  show tw_Rf z r _ σ 0 [(0, .ref (tw_zB z + 142)), (1, .int x0)] []
  unfold tw_P_X4_placeAt
  refine r_iload_n X dX4_placeAt_0 rfl 1 rfl ?_
  refine r_jn (α := Option Nat) (σJ := fun a1 => σ) (pcJ := 23) (LJ := fun a1 => []) (stJ := fun a1 => [va_rf (Option.map (fun k => tw_zB z + k) a1)]) (ok := fun a1 => ∀ x, a1 = some x → tw_kd x = 2) (fun a1 hoka1 => ?_) (fun j2 hj2 => ?_)
  ·
    exact r_aret_rn X dX4_placeAt_23 hret hQ rfl
  refine r_jn (α := Unit) (σJ := fun a3 => σ) (pcJ := 22) (LJ := fun a3 => []) (stJ := fun a3 => []) (ok := fun a3 => True) (fun a3 hoka3 => ?_) (fun j4 hj4 => ?_)
  ·
    refine r_null X dX4_placeAt_22 ?_
    exact hj2 none (fun x h => by cases h)
  refine r_if_lt X dX4_placeAt_1 (tgt := 22) (by decide) ?_ ?_
  ·
    exact tw_Rf.sub [] rfl (hj4 () trivial)
  ·
    refine r_iload_n X dX4_placeAt_4 rfl 1 rfl ?_
    refine r_aload_n X dX4_placeAt_5 rfl 0 rfl ?_
    refine tw_g4_0 (k := 142) (v := .ref (tw_zB z + 143)) X dX4_placeAt_6 _ tw_w347 tw_kc142 rfl ?_
    refine r_alenR (j := 0) (k := 143) X dX4_placeAt_9 (tw_kd_lt tw_kc143 (by decide)) (tw_E16 tw_kc143) rfl rfl ?_
    refine r_icmp_ge X dX4_placeAt_10 (tgt := 22) (by decide) ?_ ?_
    ·
      exact tw_Rf.sub [] rfl (hj4 () trivial)
    ·
      refine r_aload_n X dX4_placeAt_13 rfl 0 rfl ?_
      refine tw_g4_0 (k := 142) (v := .ref (tw_zB z + 143)) X dX4_placeAt_14 _ tw_w347 tw_kc142 rfl ?_
      refine r_iload_n X dX4_placeAt_17 rfl 1 rfl ?_
      refine r_aald (k := 143) (r := 143 + 1 + 32 * Int32.toNatClampNeg x0) X dX4_placeAt_18 (tw_kd_lt tw_kc143 (by decide)) (tw_E16 tw_kc143) rfl rfl rfl (fun h5 => ?_)
      refine r_goto X dX4_placeAt_19 (tgt := 23) (by decide) ?_
      exact tw_Rf.sub [] rfl (hj2 (some (143 + 1 + 32 * Int32.toNatClampNeg x0)) (fun x h => by cases h; exact (tw_ke16 tw_kc143 (tw_ok_lt h5))))
theorem tw_c_X4_placeAt {ρ : Type} {z : tw_Z} {cc : ByteArray} {own : String} {nL pc : Nat} {σ : tw_Sg} {L : List (Nat × Value)} {st : List Value} {ix : Nat} {x0 : Int32} (X : tw_X z cc own nL) (d : decode cc pc = .ok (.invokevirtual ix, 3)) (i : Nat) (hi : lw_tbl[i]? = some (.methodLink own ix yX4_placeAt))  {res : ρ} {E : Option ρ} {r : Option Nat} (h : tw_P_X4_placeAt x0 σ = some r) (h1 : 1 ≤ (tw_zR z).frames) (h2 : 21 ≤ (tw_zR z).locals) (hcs : tw_zcells z ≤ (tw_zR z).cells ∧ tw_zslots z ≤ (tw_zR z).slots) (hst : (st.map fun v => v.category).sum ≤ 8) (_ : True) (kk : tw_Rf z res E σ (pc + 3) L (va_rf (Option.map (fun k => tw_zB z + k) r) :: st)) : tw_Rf z res E σ pc L (.int x0 :: .ref (tw_zB z + 142) :: st) := r_callV (As := [.int x0]) X d (tw_m_X4_placeAt  h) tw_y_X4_placeAt tw_v_X4_placeAt i hi rfl (tw_kd_lt tw_kc142 (by decide)) (tw_E4 tw_kc142) rfl ⟨rfl, rfl, h1, h2⟩ hcs hst rfl kk
def tw_P_X4_keep (r0 : Nat) (σ : tw_Sg) : Option (tw_Sg) :=
tw_bd (tw_P_X4_placeAt (σ 142 1) σ) (fun r1 =>
tw_ck (tw_nk r1 2) (
tw_jn (fun (a3 : tw_Sg) =>
tw_ck (!decide ((8 : Int32) = 0)) (
tw_lt (tw_up a3 142 1 (((a3 142 1) + (1 : Int32)) - ((a3 142 1) + (1 : Int32)) / (8 : Int32) * (8 : Int32))) (fun (σ5 : tw_Sg) =>
tw_lt (tw_up σ5 142 2 (if (8 : Int32) < ((σ5 142 2) + (1 : Int32)) then (8 : Int32) else ((σ5 142 2) + (1 : Int32)))) (fun (σ6 : tw_Sg) =>
some σ6)))) (fun (j4 : (tw_Sg) → Option (tw_Sg)) =>
tw_mt r1 (j4 σ) (fun q7 =>
tw_bd (tw_P_X2_copyFrom q7 r0 σ) (fun r9 =>
j4 r9)))))
theorem tw_y_X4_keep : tw_My yX4_keep cX4_keep 3 none 1 := ⟨List.mem_of_getElem? tw_w464, List.mem_of_getElem? tw_w46, by decide +kernel, by decide +kernel, by decide +kernel⟩
theorem tw_v_X4_keep : tw_Mv yX4_keep "TreasureWalk$History" := ⟨List.mem_of_getElem? tw_w462, List.mem_of_getElem? tw_w463, rfl⟩
set_option maxRecDepth 100000 in
set_option maxHeartbeats 4000000 in
theorem tw_m_X4_keep {l : Launch} {B : Nat} {D : tw_G} {C : Nat → ClassId} {S : Nat → Nat} {r0 : Nat} {σ : tw_Sg} (hr0 : tw_kd r0 = 2) {r : tw_Sg} (h : tw_P_X4_keep r0 σ = some r) : tw_Met l B D C S yX4_keep cX4_keep 3 none ({ frames := 4, cells := 0, slots := 0, locals := 124 } : Room) [.ref (B + 142), .ref (B + r0)] σ (none) r := by
  refine tw_metOfP (tw_P_X4_keep r0 σ) r h (fun r => (none, r)) (by decide +kernel) (Nat.le_of_ble_eq_true rfl) ⟨rfl, rfl⟩ ?_
  intro z el eB eD eC eS hfr hlo hcs X hret hQ
  subst el eB eD eC eS
  have X : tw_X z cX4_keep "TreasureWalk$History" 3 := X
  show tw_Rf z r _ σ 0 [(0, .ref (tw_zB z + 142)), (1, .ref (tw_zB z + r0))] []
  unfold tw_P_X4_keep
  refine r_aload_n X dX4_keep_0 rfl 0 rfl ?_
  refine r_aload_n X dX4_keep_1 rfl 0 rfl ?_
  refine tw_g4_1 (k := 142) (v := .int (σ 142 1)) X dX4_keep_2 _ tw_w348 tw_kc142 rfl ?_
  refine r_bd (fun r1 hr1 => ?_)
  refine tw_c_X4_placeAt X dX4_keep_5 _ tw_w465  hr1 (tw_le hfr rfl) (tw_le hlo rfl) hcs (Nat.le_of_ble_eq_true rfl) trivial ?_
  refine r_ck (fun h2 => ?_)
  refine r_astore_rn X dX4_keep_8 rfl (by decide) (L' := [(2, va_rf (Option.map (fun k => tw_zB z + k) r1)), (0, .ref (tw_zB z + 142)), (1, .ref (tw_zB z + r0))]) rfl ?_
  refine r_aload_rn X dX4_keep_9 rfl 0 rfl ?_
  refine r_jn (α := tw_Sg) (σJ := fun a3 => a3) (pcJ := 18) (LJ := fun a3 => [(0, .ref (tw_zB z + 142))]) (stJ := fun a3 => []) (ok := fun a3 => True) (fun a3 hoka3 => ?_) (fun j4 hj4 => ?_)
  ·
    refine r_aload_n X dX4_keep_18 rfl 0 rfl ?_
    refine r_aload_n X dX4_keep_19 rfl 0 rfl ?_
    refine tw_g4_1 (k := 142) (v := .int (a3 142 1)) X dX4_keep_20 _ tw_w348 tw_kc142 rfl ?_
    refine r_iconst X dX4_keep_23 (v := (1 : Int32)) (by decide) ?_
    refine r_iadd X dX4_keep_24 ?_
    refine r_bipush X dX4_keep_25 (v := (8 : Int32)) (by decide) ?_
    refine r_irem X dX4_keep_27 ?_
    refine tw_s4_1 (k := 142) X dX4_keep_28 _ tw_w348 tw_kc142 (fun σ5 => ?_)
    refine r_aload_n X dX4_keep_31 rfl 0 rfl ?_
    refine r_aload_n X dX4_keep_32 rfl 0 rfl ?_
    refine tw_g4_2 (k := 142) (v := .int (σ5 142 2)) X dX4_keep_33 _ tw_w349 tw_kc142 rfl ?_
    refine r_iconst X dX4_keep_36 (v := (1 : Int32)) (by decide) ?_
    refine r_iadd X dX4_keep_37 ?_
    refine r_bipush X dX4_keep_38 (v := (8 : Int32)) (by decide) ?_
    refine tw_mmin X dX4_keep_40 _ tw_w494 (tw_le hfr rfl) (tw_le hlo rfl) hcs ?_
    refine tw_s4_2 (k := 142) X dX4_keep_43 _ tw_w349 tw_kc142 (fun σ6 => ?_)
    exact r_vret X dX4_keep_46 hret hQ rfl
  refine r_ifnull X dX4_keep_10 (tgt := 18) (by decide) (fun h8 => ?_) (fun q7 h8 => ?_)
  ·
    rw [h8]
    show tw_Rf z _ _ _ _ [(2, .null), (0, .ref (tw_zB z + 142)), (1, .ref (tw_zB z + r0))] _
    exact tw_Rf.sub [1] rfl (hj4 σ trivial)
  ·
    rw [h8]
    show tw_Rf z _ _ _ _ [(2, .ref (tw_zB z + q7)), (0, .ref (tw_zB z + 142)), (1, .ref (tw_zB z + r0))] _
    refine r_aload_n X dX4_keep_13 rfl 0 rfl ?_
    refine r_aload_n X dX4_keep_14 rfl 2 rfl ?_
    refine r_bd (fun r9 hr9 => ?_)
    refine tw_c_X2_copyFrom X dX4_keep_15 _ tw_w469 ((tw_nk_of h2) q7 h8) hr0 hr9 (tw_le hfr rfl) (tw_le hlo rfl) hcs (Nat.le_of_ble_eq_true rfl) trivial ?_
    exact tw_Rf.sub [1] rfl (hj4 r9 trivial)
theorem tw_c_X4_keep {ρ : Type} {z : tw_Z} {cc : ByteArray} {own : String} {nL pc : Nat} {σ : tw_Sg} {L : List (Nat × Value)} {st : List Value} {ix : Nat} {r0 : Nat} (X : tw_X z cc own nL) (d : decode cc pc = .ok (.invokevirtual ix, 3)) (i : Nat) (hi : lw_tbl[i]? = some (.methodLink own ix yX4_keep)) (hr0 : tw_kd r0 = 2) {res : ρ} {E : Option ρ} {r : tw_Sg} (h : tw_P_X4_keep r0 σ = some r) (h1 : 5 ≤ (tw_zR z).frames) (h2 : 146 ≤ (tw_zR z).locals) (hcs : tw_zcells z ≤ (tw_zR z).cells ∧ tw_zslots z ≤ (tw_zR z).slots) (hst : (st.map fun v => v.category).sum ≤ 8) (_ : True) (kk : tw_Rf z res E r (pc + 3) L (st)) : tw_Rf z res E σ pc L (.ref (tw_zB z + r0) :: .ref (tw_zB z + 142) :: st) := r_callV (As := [.ref (tw_zB z + r0)]) X d (tw_m_X4_keep hr0 h) tw_y_X4_keep tw_v_X4_keep i hi rfl (tw_kd_lt tw_kc142 (by decide)) (tw_E4 tw_kc142) rfl ⟨rfl, rfl, h1, h2⟩ hcs hst rfl kk
def tw_P_X4_takeBack (r0 : Nat) (σ : tw_Sg) : Option (Int32 × tw_Sg) :=
if 0 < (σ 142 2) then (tw_ck (!decide ((8 : Int32) = 0)) (
tw_lt (tw_up σ 142 1 ((((σ 142 1) + (8 : Int32)) - (1 : Int32)) - (((σ 142 1) + (8 : Int32)) - (1 : Int32)) / (8 : Int32) * (8 : Int32))) (fun (σ1 : tw_Sg) =>
tw_lt (tw_up σ1 142 2 ((σ1 142 2) - (1 : Int32))) (fun (σ2 : tw_Sg) =>
tw_bd (tw_P_X4_placeAt (σ2 142 1) σ2) (fun r3 =>
tw_ck (tw_nk r3 2) (
tw_jn (fun (a5 : tw_Sg) =>
tw_ck (tw_01 (1 : Int32)) (some ((1 : Int32), a5))) (fun (j6 : (tw_Sg) → Option (Int32 × tw_Sg)) =>
tw_mt r3 (j6 σ2) (fun q7 =>
tw_bd (tw_P_X2_copyFrom r0 q7 σ2) (fun r9 =>
j6 r9)))))))))
else (tw_ck (tw_01 (0 : Int32)) (some ((0 : Int32), σ)))
theorem tw_y_X4_takeBack : tw_My yX4_takeBack cX4_takeBack 3 (some .boolean) 1 := ⟨List.mem_of_getElem? tw_w507, List.mem_of_getElem? tw_w46, by decide +kernel, by decide +kernel, by decide +kernel⟩
theorem tw_v_X4_takeBack : tw_Mv yX4_takeBack "TreasureWalk$History" := ⟨List.mem_of_getElem? tw_w505, List.mem_of_getElem? tw_w506, rfl⟩
set_option maxRecDepth 100000 in
set_option maxHeartbeats 4000000 in
theorem tw_m_X4_takeBack {l : Launch} {B : Nat} {D : tw_G} {C : Nat → ClassId} {S : Nat → Nat} {r0 : Nat} {σ : tw_Sg} (hr0 : tw_kd r0 = 2) {r : Int32 × tw_Sg} (h : tw_P_X4_takeBack r0 σ = some r) : tw_Met l B D C S yX4_takeBack cX4_takeBack 3 (some .boolean) ({ frames := 4, cells := 0, slots := 0, locals := 124 } : Room) [.ref (B + 142), .ref (B + r0)] σ (some (.int r.1)) r.2 := by
  refine tw_metOfP (tw_P_X4_takeBack r0 σ) r h (fun r => (some (.int r.1), r.2)) (by decide +kernel) (Nat.le_of_ble_eq_true rfl) ⟨rfl, rfl⟩ ?_
  intro z el eB eD eC eS hfr hlo hcs X hret hQ
  subst el eB eD eC eS
  have X : tw_X z cX4_takeBack "TreasureWalk$History" 3 := X
  show tw_Rf z r _ σ 0 [(0, .ref (tw_zB z + 142)), (1, .ref (tw_zB z + r0))] []
  unfold tw_P_X4_takeBack
  refine r_aload_n X dX4_takeBack_0 rfl 0 rfl ?_
  refine tw_g4_2 (k := 142) (v := .int (σ 142 2)) X dX4_takeBack_1 _ tw_w349 tw_kc142 rfl ?_
  refine r_if_gt X dX4_takeBack_4 (tgt := 9) (by decide) ?_ ?_
  ·
    refine r_aload_n X dX4_takeBack_9 rfl 0 rfl ?_
    refine r_aload_n X dX4_takeBack_10 rfl 0 rfl ?_
    refine tw_g4_1 (k := 142) (v := .int (σ 142 1)) X dX4_takeBack_11 _ tw_w348 tw_kc142 rfl ?_
    refine r_bipush X dX4_takeBack_14 (v := (8 : Int32)) (by decide) ?_
    refine r_iadd X dX4_takeBack_16 ?_
    refine r_iconst X dX4_takeBack_17 (v := (1 : Int32)) (by decide) ?_
    refine r_isub X dX4_takeBack_18 ?_
    refine r_bipush X dX4_takeBack_19 (v := (8 : Int32)) (by decide) ?_
    refine r_irem X dX4_takeBack_21 ?_
    refine tw_s4_1 (k := 142) X dX4_takeBack_22 _ tw_w348 tw_kc142 (fun σ1 => ?_)
    refine r_aload_n X dX4_takeBack_25 rfl 0 rfl ?_
    refine r_dup X dX4_takeBack_26 rfl ?_
    refine tw_g4_2 (k := 142) (v := .int (σ1 142 2)) X dX4_takeBack_27 _ tw_w349 tw_kc142 rfl ?_
    refine r_iconst X dX4_takeBack_30 (v := (1 : Int32)) (by decide) ?_
    refine r_isub X dX4_takeBack_31 ?_
    refine tw_s4_2 (k := 142) X dX4_takeBack_32 _ tw_w349 tw_kc142 (fun σ2 => ?_)
    refine r_aload_n X dX4_takeBack_35 rfl 0 rfl ?_
    refine r_aload_n X dX4_takeBack_36 rfl 0 rfl ?_
    refine tw_g4_1 (k := 142) (v := .int (σ2 142 1)) X dX4_takeBack_37 _ tw_w348 tw_kc142 rfl ?_
    refine r_bd (fun r3 hr3 => ?_)
    refine tw_c_X4_placeAt X dX4_takeBack_40 _ tw_w465  hr3 (tw_le hfr rfl) (tw_le hlo rfl) hcs (Nat.le_of_ble_eq_true rfl) trivial ?_
    refine r_ck (fun h4 => ?_)
    refine r_astore_rn X dX4_takeBack_43 rfl (by decide) (L' := [(2, va_rf (Option.map (fun k => tw_zB z + k) r3)), (0, .ref (tw_zB z + 142)), (1, .ref (tw_zB z + r0))]) rfl ?_
    refine r_aload_rn X dX4_takeBack_44 rfl 0 rfl ?_
    refine r_jn (α := tw_Sg) (σJ := fun a5 => a5) (pcJ := 53) (LJ := fun a5 => []) (stJ := fun a5 => []) (ok := fun a5 => True) (fun a5 hoka5 => ?_) (fun j6 hj6 => ?_)
    ·
      refine r_iconst X dX4_takeBack_53 (v := (1 : Int32)) (by decide) ?_
      exact r_zret X dX4_takeBack_54 hret hQ rfl
    refine r_ifnull X dX4_takeBack_45 (tgt := 53) (by decide) (fun h8 => ?_) (fun q7 h8 => ?_)
    ·
      rw [h8]
      show tw_Rf z _ _ _ _ [(2, .null), (0, .ref (tw_zB z + 142)), (1, .ref (tw_zB z + r0))] _
      exact tw_Rf.sub [] rfl (hj6 σ2 trivial)
    ·
      rw [h8]
      show tw_Rf z _ _ _ _ [(2, .ref (tw_zB z + q7)), (0, .ref (tw_zB z + 142)), (1, .ref (tw_zB z + r0))] _
      refine r_aload_n X dX4_takeBack_48 rfl 2 rfl ?_
      refine r_aload_n X dX4_takeBack_49 rfl 0 rfl ?_
      refine r_bd (fun r9 hr9 => ?_)
      refine tw_c_X2_copyFrom X dX4_takeBack_50 _ tw_w469 hr0 ((tw_nk_of h4) q7 h8) hr9 (tw_le hfr rfl) (tw_le hlo rfl) hcs (Nat.le_of_ble_eq_true rfl) trivial ?_
      exact tw_Rf.sub [] rfl (hj6 r9 trivial)
  ·
    refine r_iconst X dX4_takeBack_7 (v := (0 : Int32)) (by decide) ?_
    exact r_zret X dX4_takeBack_8 hret hQ rfl
theorem tw_c_X4_takeBack {ρ : Type} {z : tw_Z} {cc : ByteArray} {own : String} {nL pc : Nat} {σ : tw_Sg} {L : List (Nat × Value)} {st : List Value} {ix : Nat} {r0 : Nat} (X : tw_X z cc own nL) (d : decode cc pc = .ok (.invokevirtual ix, 3)) (i : Nat) (hi : lw_tbl[i]? = some (.methodLink own ix yX4_takeBack)) (hr0 : tw_kd r0 = 2) {res : ρ} {E : Option ρ} {r : Int32 × tw_Sg} (h : tw_P_X4_takeBack r0 σ = some r) (h1 : 5 ≤ (tw_zR z).frames) (h2 : 146 ≤ (tw_zR z).locals) (hcs : tw_zcells z ≤ (tw_zR z).cells ∧ tw_zslots z ≤ (tw_zR z).slots) (hst : (st.map fun v => v.category).sum ≤ 8) (_ : True) (kk : tw_Rf z res E r.2 (pc + 3) L (.int r.1 :: st)) : tw_Rf z res E σ pc L (.ref (tw_zB z + r0) :: .ref (tw_zB z + 142) :: st) := r_callV (As := [.ref (tw_zB z + r0)]) X d (tw_m_X4_takeBack hr0 h) tw_y_X4_takeBack tw_v_X4_takeBack i hi rfl (tw_kd_lt tw_kc142 (by decide)) (tw_E4 tw_kc142) rfl ⟨rfl, rfl, h1, h2⟩ hcs hst rfl kk
