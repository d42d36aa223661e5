theorem tw_u115 : lw_tbl[115]? = some ((Jvm.Cond.classLink "TreasureWalkLaw" (8 : Nat) "TreasureWalk")) := by decide +kernel
theorem tw_u117 : lw_tbl[117]? = some ((Jvm.Cond.methodLink "TreasureWalkLaw" (66 : Nat) ({ cls := "TreasureWalk", name := "<init>", desc := "()V" } : Jvm.MethodName))) := by decide +kernel
theorem tw_u118 : lw_tbl[118]? = some ((Jvm.Cond.instanceMethod ({ cls := "TreasureWalk", name := "<init>", desc := "()V" } : Jvm.MethodName))) := by decide +kernel
theorem tw_u1237 : lw_tbl[1237]? = some ((Jvm.Cond.classLink "TreasureWalkLaw" (67 : Nat) "TreasureWalkModel")) := by decide +kernel
theorem tw_u1239 : lw_tbl[1239]? = some ((Jvm.Cond.methodLink "TreasureWalkLaw" (69 : Nat) ({ cls := "TreasureWalkModel", name := "<init>", desc := "()V" } : Jvm.MethodName))) := by decide +kernel
theorem tw_u1240 : lw_tbl[1240]? = some ((Jvm.Cond.instanceMethod ({ cls := "TreasureWalkModel", name := "<init>", desc := "()V" } : Jvm.MethodName))) := by decide +kernel
/-! THE LAW'S OPENING: its two objects and its long[1]; then the head of its loop. -/
theorem c_newl {z : tw_Z} {cc : ByteArray} {own : String} {nL pc mm : Nat} {F : Nat → va_E} {L : List (Nat × Value)} {st : List Value} {N : Nat} {n : Int32} (X : tw_X z cc own nL) (d : decode cc pc = .ok (.newarray .long, 2)) (hn : ¬ n < 0) (hN : n.toNatClampNeg = N) (hb : N * 8 ≤ 536870912) (hc : tw_zcells z + 1 ≤ (tw_zR z).cells) (hs : tw_zslots z + N ≤ (tw_zR z).slots) (hw : (Cond.arrayClass .long).before (tw_zargs z) (tw_zs z) = true)
    (kk : tw_Rc (tw_cz z (tw_zcells z + 1) (tw_zslots z + N)) (va_up F mm (.inl (tw_zC z 7, N, .inr (.inl (fun _ => 0))))) (mm + 1) (pc + 2) L (.ref (tw_zB z + mm) :: st)) : tw_Rc z F mm pc L (.int n :: st) := by
  intro H locs ls hP hz hS hl
  refine va_newaK X.1 X.2.1 (atype := .long) hw rfl d rfl hn hN hb hc hs hz fun H1 cA e1 z1 o1 _ hf => ?_
  have hA : cA = tw_zC z 7 := Option.some.inj (hf.symm.trans ((X.2.2.2.2.2.1.2.1.2 7 _ rfl).2))
  subst hA
  exact kk H1 locs ls (tw_Ppush hP hz o1 e1) z1 (tw_SSpush hS hz z1 o1) hl
theorem c_istore {z : tw_Z} {cc : ByteArray} {own : String} {nL pc mm : Nat} {F : Nat → va_E} {L L' : List (Nat × Value)} {st : List Value} {i : Nat} {x : Int32} (X : tw_X z cc own nL) (d : decode cc pc = .ok (.istore i, 2)) (hn : i < nL) (hL : (i, Value.int x) :: L.filter (fun q => !(q.1 == i) && !(q.1 + 1 == i && q.2.category == 2)) = L') (kk : tw_Rc z F mm (pc + 2) L' st) : tw_Rc z F mm pc L (.int x :: st) := fun H locs ls hP hz hS hl => lv_istore X.1 X.2.1 d hl (tw_nLt X hn) hL (fun ls' hl' => kk H locs ls' hP hz hS hl')
/-- the numbers when the reference's constructor comes to layMap -/
def tw_sb (σ : tw_Sg) : tw_Sg := fun k => if k = 442 then (fun i => if i = 7 then -1 else 0) else if k < 442 then σ k else fun _ => 0
theorem tw_sb_lt {σ : tw_Sg} {q : Nat} (h : q < 442) : tw_sb σ q = σ q := by
  unfold tw_sb
  rw [if_neg (by omega), if_pos h]
theorem tw_sb_s {σ : tw_Sg} : tw_sb σ 442 = fun i => if i = 7 then -1 else 0 := if_pos rfl
theorem tw_sb_gt {σ : tw_Sg} {q : Nat} (h : 442 < q) : tw_sb σ q = fun _ => 0 := by
  unfold tw_sb
  rw [if_neg (by omega), if_neg (by omega)]
set_option maxRecDepth 100000 in
set_option maxHeartbeats 4000000 in
theorem tw_open {z : tw_Z} {b n : Nat} {σ1 σc : tw_Sg} {Fx : Nat → va_E} (X : tw_X z cL_law "TreasureWalkLaw" 9) (hAK : tw_AK (tw_zs z)) (hB : (tw_zs z).heap.size = tw_zB z) (hR : tw_zR z = room_1) (e0 : tw_zcells z = 0) (e0s : tw_zslots z = 0) (hb1 : tx_P_X2_begin n 1 (1 : Int32) (1 : Int32) tw_s0 = some σ1) (h1 : ∀ q, 33 ≤ q → q < 442 → σ1 q = fun _ => 0) (hb2 : ty_P_X12_layMap n 444 (1 : Int32) (1 : Int32) (tw_sb (tw_up (tw_up σ1 1 10 33) 0 6 (-1))) = some σc) (hc : σc 1036 = fun _ => 0)
    (k : tw_Rf (tw_cz z 1037 46979) (1 : Int32) (some (1 : Int32)) σc 23 [(4, .int 0), (3, .ref (tw_zB z + 1036)), (2, .ref (tw_zB z + 442)), (1, .ref (tw_zB z + 0)), (0, .ref b)] []) : tw_Rc z Fx 0 0 [(0, .ref b)] [] := by
  refine tw_Rc.z0 e0 e0s ?_
  refine k_new (ci := 11) (T := TX11) (N := 7) (fs := [.null, .null, .null, .null, .null, .null, .int 0]) (mm := 0) (c := 0) (s := 0) (c' := 1) (s' := 7) X dL_law_0 _ tw_u115 tw_u116 tw_u88 tw_in11 tyX11 tyX11_ok rfl tw_df11 (by show 1 ≤ (tw_zR z).cells; rw [hR]; exact Nat.le_of_ble_eq_true rfl) (by show 7 ≤ (tw_zR z).slots; rw [hR]; exact Nat.le_of_ble_eq_true rfl) rfl rfl ?_
  refine c_dup (z := tw_cz z 1 7) X dL_law_3 rfl ?_
  refine c_init (rm := { frames := 5, cells := 441, slots := 11503, locals := 102 }) (z := tw_cz z 1 7) (mm := 1) (mm' := 442) (F' := _) (As := []) X hAK (by show (tw_zs z).heap.size + 1 = tw_zB z + 1; omega) dL_law_4 (tw_i_X11 hb1 h1 (va_up_self _ _ _)) tw_y_X11_init (List.mem_of_getElem? tw_u118) rfl _ tw_u117 rfl ⟨rfl, rfl, (by show 6 ≤ (tw_zR z).frames; rw [hR]; exact Nat.le_of_ble_eq_true rfl), (by show 125 ≤ (tw_zR z).locals; rw [hR]; exact Nat.le_of_ble_eq_true rfl)⟩ ⟨(by show 442 ≤ (tw_zR z).cells; rw [hR]; exact Nat.le_of_ble_eq_true rfl), (by show 11510 ≤ (tw_zR z).slots; rw [hR]; exact Nat.le_of_ble_eq_true rfl)⟩ (Nat.le_of_ble_eq_true rfl) rfl (by decide) rfl ?_
  show tw_Rc (tw_cz z 442 11510) _ _ 7 _ _
  refine c_astore_n (z := tw_cz z 442 11510) X dL_law_7 rfl (by decide) (L' := [(1, .ref (tw_zB z + 0)), (0, .ref b)]) rfl ?_
  generalize hσa : tw_up (tw_up σ1 1 10 33) 0 6 (-1) = σa at hb2 ⊢
  refine k_new (ci := 12) (T := TX12) (N := 31) (fs := [.int 0, .null, .int 0, .int 0, .int 0, .int 0, .int 0, .int 0, .null, .null, .null, .int 0, .int 0, .int 0, .int 0, .int 0, .int 0, .int 0, .int 0, .null, .null, .null, .int 0, .null, .null, .null, .null, .null, .null, .null, .null]) (mm := 442) (c := 442) (s := 11510) (c' := 443) (s' := 11541) X dL_law_8 _ tw_u1237 tw_u1238 tw_u101 tw_in12 tyX12 tyX12_ok rfl tw_df12 (by show 443 ≤ (tw_zR z).cells; rw [hR]; exact Nat.le_of_ble_eq_true rfl) (by show 11541 ≤ (tw_zR z).slots; rw [hR]; exact Nat.le_of_ble_eq_true rfl) rfl rfl ?_
  refine c_dup (z := tw_cz z 443 11541) X dL_law_11 rfl ?_
  refine c_init (rm := { frames := 1, cells := 593, slots := 35437, locals := 23 }) (z := tw_cz z 443 11541) (mm := 443) (mm' := 1036) (F' := _) (As := []) X hAK (by show (tw_zs z).heap.size + 443 = tw_zB z + 443; omega) dL_law_12 (tw_i_X12 hb2 tw_sb_s (fun q a b => tw_sb_gt (by omega)) (fun q hq => (va_up_ne _ _ (by omega)).trans ((if_pos ⟨Nat.zero_le _, hq⟩).trans (tw_E_cong (tw_sb_lt hq).symm))) (va_up_self _ _ _)) tw_y_X12_init (List.mem_of_getElem? tw_u1240) rfl _ tw_u1239 rfl ⟨rfl, rfl, (by show 2 ≤ (tw_zR z).frames; rw [hR]; exact Nat.le_of_ble_eq_true rfl), (by show 43 ≤ (tw_zR z).locals; rw [hR]; exact Nat.le_of_ble_eq_true rfl)⟩ ⟨(by show 1036 ≤ (tw_zR z).cells; rw [hR]; exact Nat.le_of_ble_eq_true rfl), (by show 46978 ≤ (tw_zR z).slots; rw [hR]; exact Nat.le_of_ble_eq_true rfl)⟩ (Nat.le_of_ble_eq_true rfl) rfl (by decide) rfl ?_
  show tw_Rc (tw_cz z 1036 46978) _ _ 15 _ _
  refine c_astore_n (z := tw_cz z 1036 46978) X dL_law_15 rfl (by decide) (L' := [(2, .ref (tw_zB z + 442)), (1, .ref (tw_zB z + 0)), (0, .ref b)]) rfl ?_
  refine c_iconst (z := tw_cz z 1036 46978) X dL_law_16 (v := (1 : Int32)) (by decide) ?_
  refine c_newl (z := tw_cz z 1036 46978) (N := 1) X dL_law_17 (by decide) (by decide) (by decide) (by show 1037 ≤ (tw_zR z).cells; rw [hR]; exact Nat.le_of_ble_eq_true rfl) (by show 46979 ≤ (tw_zR z).slots; rw [hR]; exact Nat.le_of_ble_eq_true rfl) hAK.1.2.2 ?_
  show tw_Rc (tw_cz z 1037 46979) _ 1037 19 _ _
  refine c_astore_n (z := tw_cz z 1037 46979) X dL_law_19 rfl (by decide) (L' := [(3, .ref (tw_zB z + 1036)), (2, .ref (tw_zB z + 442)), (1, .ref (tw_zB z + 0)), (0, .ref b)]) rfl ?_
  refine c_iconst (z := tw_cz z 1037 46979) X dL_law_20 (v := (0 : Int32)) (by decide) ?_
  refine c_istore (z := tw_cz z 1037 46979) X dL_law_21 (by decide) (L' := [(4, .int 0), (3, .ref (tw_zB z + 1036)), (2, .ref (tw_zB z + 442)), (1, .ref (tw_zB z + 0)), (0, .ref b)]) rfl ?_
  refine fun H locs ls hP hz hS hl => k rfl H locs ls (tw_Pcong hP (fun q hq => ?_)) hS hl
  by_cases h2 : q = 1036
  · subst h2
    rw [va_up_self, tw_E20 (by decide +kernel), hc, show tw_ln 1036 = 1 from by decide +kernel]
    rfl
  · rw [va_up_ne _ _ h2]
    rfl
