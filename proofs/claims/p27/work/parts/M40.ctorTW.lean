theorem tw_u75 : lw_tbl[75]? = some ((Jvm.Cond.methodLink "TreasureWalk" (3 : Nat) ({ cls := "java/lang/Object", name := "<init>", desc := "()V" } : Jvm.MethodName))) := by decide +kernel
theorem tw_u78 : lw_tbl[78]? = some ((Jvm.Cond.classLink "TreasureWalk" (9 : Nat) "TreasureWalk$Data")) := by decide +kernel
theorem tw_u80 : lw_tbl[80]? = some ((Jvm.Cond.methodLinkNest "TreasureWalk" (11 : Nat) ({ cls := "TreasureWalk$Data", name := "<init>", desc := "()V" } : Jvm.MethodName) "TreasureWalk")) := by decide +kernel
theorem tw_u197 : lw_tbl[197]? = some ((Jvm.Cond.fieldLinkNest "TreasureWalk" (20 : Nat) "TreasureWalk$Data" "team" "I" "TreasureWalk")) := by decide +kernel
theorem tw_u235 : lw_tbl[235]? = some ((Jvm.Cond.methodLink "TreasureWalk" (12 : Nat) ({ cls := "TreasureWalk$Data", name := "begin", desc := "(II)V" } : Jvm.MethodName))) := by decide +kernel
theorem tw_u263 : lw_tbl[263]? = some ((Jvm.Cond.methodLink "TreasureWalk" (16 : Nat) ({ cls := "TreasureWalk", name := "spotAt", desc := "(II)I" } : Jvm.MethodName))) := by decide +kernel
theorem tw_u264 : lw_tbl[264]? = some ((Jvm.Cond.classLink "TreasureWalk" (24 : Nat) "TreasureWalk$Trails")) := by decide +kernel
theorem tw_u265 : lw_tbl[265]? = some ((Jvm.Cond.instantiable "TreasureWalk$Trails" (4 : Nat))) := by decide +kernel
theorem tw_u266 : lw_tbl[266]? = some ((Jvm.Cond.methodLink "TreasureWalk" (26 : Nat) ({ cls := "TreasureWalk$Trails", name := "<init>", desc := "(LTreasureWalk$Data;)V" } : Jvm.MethodName))) := by decide +kernel
theorem tw_u267 : lw_tbl[267]? = some ((Jvm.Cond.instanceMethod ({ cls := "TreasureWalk$Trails", name := "<init>", desc := "(LTreasureWalk$Data;)V" } : Jvm.MethodName))) := by decide +kernel
theorem tw_u301 : lw_tbl[301]? = some ((Jvm.Cond.classLink "TreasureWalk" (29 : Nat) "TreasureWalk$Survey")) := by decide +kernel
theorem tw_u302 : lw_tbl[302]? = some ((Jvm.Cond.instantiable "TreasureWalk$Survey" (4 : Nat))) := by decide +kernel
theorem tw_u303 : lw_tbl[303]? = some ((Jvm.Cond.methodLink "TreasureWalk" (31 : Nat) ({ cls := "TreasureWalk$Survey", name := "<init>", desc := "(LTreasureWalk$Data;LTreasureWalk$Trails;)V" } : Jvm.MethodName))) := by decide +kernel
theorem tw_u304 : lw_tbl[304]? = some ((Jvm.Cond.instanceMethod ({ cls := "TreasureWalk$Survey", name := "<init>", desc := "(LTreasureWalk$Data;LTreasureWalk$Trails;)V" } : Jvm.MethodName))) := by decide +kernel
theorem tw_u338 : lw_tbl[338]? = some ((Jvm.Cond.classLink "TreasureWalk" (38 : Nat) "TreasureWalk$History")) := by decide +kernel
theorem tw_u339 : lw_tbl[339]? = some ((Jvm.Cond.instantiable "TreasureWalk$History" (3 : Nat))) := by decide +kernel
theorem tw_u340 : lw_tbl[340]? = some ((Jvm.Cond.methodLink "TreasureWalk" (40 : Nat) ({ cls := "TreasureWalk$History", name := "<init>", desc := "()V" } : Jvm.MethodName))) := by decide +kernel
theorem tw_u341 : lw_tbl[341]? = some ((Jvm.Cond.instanceMethod ({ cls := "TreasureWalk$History", name := "<init>", desc := "()V" } : Jvm.MethodName))) := by decide +kernel
theorem tw_u358 : lw_tbl[358]? = some ((Jvm.Cond.classLink "TreasureWalk" (45 : Nat) "TreasureWalk$Reader")) := by decide +kernel
theorem tw_u359 : lw_tbl[359]? = some ((Jvm.Cond.instantiable "TreasureWalk$Reader" (11 : Nat))) := by decide +kernel
theorem tw_u360 : lw_tbl[360]? = some ((Jvm.Cond.methodLinkNest "TreasureWalk" (47 : Nat) ({ cls := "TreasureWalk$Reader", name := "<init>", desc := "()V" } : Jvm.MethodName) "TreasureWalk")) := by decide +kernel
theorem tw_u361 : lw_tbl[361]? = some ((Jvm.Cond.instanceMethod ({ cls := "TreasureWalk$Reader", name := "<init>", desc := "()V" } : Jvm.MethodName))) := by decide +kernel
theorem tw_u405 : lw_tbl[405]? = some ((Jvm.Cond.classLink "TreasureWalk" (60 : Nat) "TreasureWalk$Tours")) := by decide +kernel
theorem tw_u406 : lw_tbl[406]? = some ((Jvm.Cond.instantiable "TreasureWalk$Tours" (6 : Nat))) := by decide +kernel
theorem tw_u407 : lw_tbl[407]? = some ((Jvm.Cond.methodLink "TreasureWalk" (62 : Nat) ({ cls := "TreasureWalk$Tours", name := "<init>", desc := "(LTreasureWalk$Data;LTreasureWalk$Survey;)V" } : Jvm.MethodName))) := by decide +kernel
theorem tw_u408 : lw_tbl[408]? = some ((Jvm.Cond.instanceMethod ({ cls := "TreasureWalk$Tours", name := "<init>", desc := "(LTreasureWalk$Data;LTreasureWalk$Survey;)V" } : Jvm.MethodName))) := by decide +kernel
theorem tw_u431 : lw_tbl[431]? = some ((Jvm.Cond.fieldLink "TreasureWalk" (34 : Nat) "TreasureWalk" "now" "LTreasureWalk$Data;")) := by decide +kernel
theorem tw_u432 : lw_tbl[432]? = some ((Jvm.Cond.fieldLink "TreasureWalk" (41 : Nat) "TreasureWalk" "history" "LTreasureWalk$History;")) := by decide +kernel
theorem tw_u433 : lw_tbl[433]? = some ((Jvm.Cond.fieldLink "TreasureWalk" (48 : Nat) "TreasureWalk" "reader" "LTreasureWalk$Reader;")) := by decide +kernel
theorem tw_u434 : lw_tbl[434]? = some ((Jvm.Cond.fieldLink "TreasureWalk" (52 : Nat) "TreasureWalk" "trails" "LTreasureWalk$Trails;")) := by decide +kernel
theorem tw_u435 : lw_tbl[435]? = some ((Jvm.Cond.fieldLink "TreasureWalk" (56 : Nat) "TreasureWalk" "survey" "LTreasureWalk$Survey;")) := by decide +kernel
theorem tw_u436 : lw_tbl[436]? = some ((Jvm.Cond.fieldLink "TreasureWalk" (65 : Nat) "TreasureWalk" "tours" "LTreasureWalk$Tours;")) := by decide +kernel
theorem tw_u437 : lw_tbl[437]? = some ((Jvm.Cond.fieldLink "TreasureWalk" (69 : Nat) "TreasureWalk" "errorAt" "I")) := by decide +kernel
/-! TreasureWalk's own constructor: it calls Data.begin and spotAt while 33 cells stand. -/
def tw_s0 : tw_Sg := fun _ _ => 0
theorem tw_cx {B : Nat} {C : Nat → ClassId} {σ : tw_Sg} {F : Nat → va_E} : ∀ q, q < 33 → tw_cw (tw_E B C σ) F 0 (.inr (11, [.null, .null, .null, .null, .null, .null, .int 0])) 33 q = tx_E B C σ q := by
  intro q hq
  match q, hq with
  | 0, _ => rfl
  | 1, _ => exact (tw_cw_g (by decide) (by decide)).trans rfl
  | 2, _ => exact (tw_cw_g (by decide) (by decide)).trans rfl
  | 3, _ => exact (tw_cw_g (by decide) (by decide)).trans rfl
  | 4, _ => exact (tw_cw_g (by decide) (by decide)).trans rfl
  | 5, _ => exact (tw_cw_g (by decide) (by decide)).trans rfl
  | 6, _ => exact (tw_cw_g (by decide) (by decide)).trans rfl
  | 7, _ => exact (tw_cw_g (by decide) (by decide)).trans rfl
  | 8, _ => exact (tw_cw_g (by decide) (by decide)).trans rfl
  | 9, _ => exact (tw_cw_g (by decide) (by decide)).trans rfl
  | 10, _ => exact (tw_cw_g (by decide) (by decide)).trans rfl
  | 11, _ => exact (tw_cw_g (by decide) (by decide)).trans rfl
  | 12, _ => exact (tw_cw_g (by decide) (by decide)).trans rfl
  | 13, _ => exact (tw_cw_g (by decide) (by decide)).trans rfl
  | 14, _ => exact (tw_cw_g (by decide) (by decide)).trans rfl
  | 15, _ => exact (tw_cw_g (by decide) (by decide)).trans rfl
  | 16, _ => exact (tw_cw_g (by decide) (by decide)).trans rfl
  | 17, _ => exact (tw_cw_g (by decide) (by decide)).trans rfl
  | 18, _ => exact (tw_cw_g (by decide) (by decide)).trans rfl
  | 19, _ => exact (tw_cw_g (by decide) (by decide)).trans rfl
  | 20, _ => exact (tw_cw_g (by decide) (by decide)).trans rfl
  | 21, _ => exact (tw_cw_g (by decide) (by decide)).trans rfl
  | 22, _ => exact (tw_cw_g (by decide) (by decide)).trans rfl
  | 23, _ => exact (tw_cw_g (by decide) (by decide)).trans rfl
  | 24, _ => exact (tw_cw_g (by decide) (by decide)).trans rfl
  | 25, _ => exact (tw_cw_g (by decide) (by decide)).trans rfl
  | 26, _ => exact (tw_cw_g (by decide) (by decide)).trans rfl
  | 27, _ => exact (tw_cw_g (by decide) (by decide)).trans rfl
  | 28, _ => exact (tw_cw_g (by decide) (by decide)).trans rfl
  | 29, _ => exact (tw_cw_g (by decide) (by decide)).trans rfl
  | 30, _ => exact (tw_cw_g (by decide) (by decide)).trans rfl
  | 31, _ => exact (tw_cw_g (by decide) (by decide)).trans rfl
  | 32, _ => exact (tw_cw_g (by decide) (by decide)).trans rfl
  | q + 33, h => exact absurd h (by omega)
section TWTX
variable {z : tw_Z} {pc : Nat} {L : List (Nat × Value)} {st : List Value} {σ : tw_Sg} {F : Nat → va_E} {c s : Nat}
theorem c_toX (hD : (tw_zD z).2 = []) (h : tx_Rf (tw_cz z c s) () (some ()) σ pc L st) : tw_Rc (tw_cz z c s) (tw_cw (tw_E (tw_zB z) (tw_zC z) σ) F 0 (.inr (11, [.null, .null, .null, .null, .null, .null, .int 0])) 33) 33 pc L st := fun H locs ls hP hz hS hl => h rfl H locs ls (by have h2 := tw_Pcong hP tw_cx; unfold tx_PP; rw [show (tw_zD (tw_cz z c s)).2 = [] from hD, List.append_nil]; exact h2) hS hl
theorem c_ofX (hD : (tw_zD z).2 = []) (hsz : (tw_zs z).heap.size + c = tw_zB z + 33) (h : tw_Rc (tw_cz z c s) (tw_cw (tw_E (tw_zB z) (tw_zC z) σ) F 0 (.inr (11, [.null, .null, .null, .null, .null, .null, .int 0])) 33) 33 pc L st) : tx_Rf (tw_cz z c s) () (some ()) σ pc L st := fun _ H locs ls hP0 hS hl => have hP : va_P (tw_zD (tw_cz z c s)).1 vwCl (tw_wl (tw_zB z) (tx_E (tw_zB z) (tw_zC z) σ) 33) H := (by unfold tx_PP at hP0; rw [show (tw_zD (tw_cz z c s)).2 = [] from hD, List.append_nil] at hP0; exact hP0); tw_size (z := tw_cz z c s) (by decide) hsz hP (fun hz => h H locs ls (tw_Pcong hP (fun q hq => (tw_cx q hq).symm)) hz hS hl)
end TWTX
set_option maxRecDepth 100000 in
set_option maxHeartbeats 4000000 in
theorem tw_i_X11 {l : Launch} {B : Nat} {D : tw_G} {C : Nat → ClassId} {S : Nat → Nat} {σ1 : tw_Sg} {F : Nat → va_E} {n : Nat} (hb : tx_P_X2_begin n 1 (1 : Int32) (1 : Int32) tw_s0 = some σ1) (h1 : ∀ q, 33 ≤ q → q < 442 → σ1 q = fun _ => 0) (hD : D.2 = []) (hF : F 0 = .inr (11, [.null, .null, .null, .null, .null, .null, .int 0])) : tw_MetC l B D C S yX11_init cX11_init 4 { frames := 5, cells := 441, slots := 11503, locals := 102 } [.ref (B + 0)] F 1 (tw_fin (tw_E B C (tw_up (tw_up σ1 1 10 33) 0 6 (-1))) F 0 442) 442 := by
  refine tw_metOfC (by decide +kernel) (Nat.le_of_ble_eq_true rfl) ?_
  intro z el eB eD eC eS eR ec es hz hAK hnm X hret hQ
  subst el eB eD eC eS
  have X : tw_X z cX11_init "TreasureWalk" 4 := X
  show tw_Rc z F 1 0 [(0, .ref (tw_zB z + 0))] []
  refine tw_Rc.z0 ec es ?_
  refine tw_Rc.cong ?_ (tw_cw_0 (G := tw_E (tw_zB z) (tw_zC z) tw_s0) hF)
  refine c_aload_n (z := tw_cz z 0 0) X dX11_init_0 rfl 0 rfl ?_
  refine c_obj (z := tw_cz z 0 0) X dX11_init_1 _ tw_u75 (List.mem_of_getElem? tw_u76) (List.mem_of_getElem? tw_u77) (by show 1 ≤ (tw_zR z).frames; rw [eR]; exact Nat.le_of_ble_eq_true rfl) (by show 20 ≤ (tw_zR z).locals; rw [eR]; exact Nat.le_of_ble_eq_true rfl) (Nat.le_of_ble_eq_true rfl) ?_
  refine k_new (ci := 2) (T := TX2) (N := 14) (fs := [.int 0, .int 0, .null, .null, .null, .int 0, .null, .null, .null, .null, .int 0, .int 0, .int 0, .int 0]) (mm := 1) (c := 0) (s := 0) (c' := 1) (s' := 14) X dX11_init_4 _ tw_u78 tw_u79 tw_u37 tw_in2 tyX2 tyX2_ok rfl tw_df2 (by rw [eR]; exact Nat.le_of_ble_eq_true rfl) (by rw [eR]; exact Nat.le_of_ble_eq_true rfl) rfl rfl ?_
  refine c_dup (z := tw_cz z 1 14) X dX11_init_7 rfl ?_
  refine k_initN (rm := { frames := 3, cells := 31, slots := 305, locals := 61 }) (c := 1) (s := 14) (c' := 32) (s' := 319) (m := 1) (m' := 33) (As := []) X hAK hz (by omega) dX11_init_8 (tw_i_X2 (σ := tw_s0) (by decide +kernel) (fun _ _ _ => rfl) (va_up_self _ _ _)) tw_y_X2_init tw_u81 rfl _ tw_u80 rfl (by rw [eR]; exact Nat.le_of_ble_eq_true rfl) (by rw [eR]; exact Nat.le_of_ble_eq_true rfl) (by rw [eR]; exact Nat.le_of_ble_eq_true rfl) (by rw [eR]; exact Nat.le_of_ble_eq_true rfl) rfl rfl (Nat.le_of_ble_eq_true rfl) rfl (by omega) rfl ?_
  refine c_astore_n (z := tw_cz z 32 319) X dX11_init_11 rfl (by decide) (L' := [(1, .ref (tw_zB z + 1)), (0, .ref (tw_zB z + 0))]) rfl ?_
  refine c_toX hD ?_
  refine tx_r_aload_n (z := tw_cz z 32 319) X dX11_init_12 rfl 0 rfl ?_
  refine tx_r_iconst (z := tw_cz z 32 319) X dX11_init_13 (v := (1 : Int32)) (by decide) ?_
  refine tx_r_iconst (z := tw_cz z 32 319) X dX11_init_14 (v := (1 : Int32)) (by decide) ?_
  refine tx_r_callV (z := tw_cz z 32 319) (As := [.int 1, .int 1]) (k := 1) X dX11_init_15 (tx_m_X2_begin (by decide +kernel) hb) tw_y_X2_begin tw_v_X2_begin _ tw_u235 rfl (by decide) (tx_E2 (by decide +kernel)) rfl ⟨rfl, rfl, (by show 4 ≤ (tw_zR z).frames; rw [eR]; exact Nat.le_of_ble_eq_true rfl), (by show 88 ≤ (tw_zR z).locals; rw [eR]; exact Nat.le_of_ble_eq_true rfl)⟩ ⟨(by show 32 ≤ (tw_zR z).cells; rw [eR]; exact Nat.le_of_ble_eq_true rfl), (by show 319 ≤ (tw_zR z).slots; rw [eR]; exact Nat.le_of_ble_eq_true rfl)⟩ (Nat.le_of_ble_eq_true rfl) rfl ?_
  refine tx_r_aload_n (z := tw_cz z 32 319) X dX11_init_18 rfl 0 rfl ?_
  refine tx_r_iconst (z := tw_cz z 32 319) X dX11_init_19 (v := (0 : Int32)) (by decide) ?_
  refine tx_r_iconst (z := tw_cz z 32 319) X dX11_init_20 (v := (0 : Int32)) (by decide) ?_
  refine tx_r_callS (z := tw_cz z 32 319) (As := [.int 0, .int 0]) X dX11_init_21 (tx_m_X11_spotAt (r := (33 : Int32)) rfl) tw_y_X11_spotAt tw_v_X11_spotAt _ tw_u263 rfl ⟨rfl, rfl, (by show 1 ≤ (tw_zR z).frames; rw [eR]; exact Nat.le_of_ble_eq_true rfl), (by show 21 ≤ (tw_zR z).locals; rw [eR]; exact Nat.le_of_ble_eq_true rfl)⟩ ⟨(by show 32 ≤ (tw_zR z).cells; rw [eR]; exact Nat.le_of_ble_eq_true rfl), (by show 319 ≤ (tw_zR z).slots; rw [eR]; exact Nat.le_of_ble_eq_true rfl)⟩ (Nat.le_of_ble_eq_true rfl) rfl ?_
  refine c_ofX hD (F := F) (by omega) ?_
  refine c_putN (z := tw_cz z 32 319) (ci := 2) (T := TX2) (f := 10) (ty := .int) (k := 1) X (by show (tw_zs z).heap.size + 32 = tw_zB z + 33; omega) dX11_init_24 _ tw_u197 tw_in2 tyX2 tyX2_ok nmX2 rfl (by decide) rfl (by decide +kernel) rfl rfl (by decide) ((tw_cw_g (by decide) (by decide)).trans (tw_E2 (by decide +kernel))) (Nat.le_of_ble_eq_true rfl) ?_
  have h0 : ∀ q, 33 ≤ q → q < 442 → tw_up σ1 1 10 33 q = fun _ => 0 := fun q a b => (tw_up_n (by omega)).trans (h1 q a b)
  refine tw_Rc.cong (G := tw_cw (tw_E (tw_zB z) (tw_zC z) (tw_up σ1 1 10 33)) F 0 (.inr (11, [.null, .null, .null, .null, .null, .null, .int 0])) 33) ?_ (fun q hq => ?_)
  rotate_left
  · by_cases h2 : q = 1
    · subst h2
      rw [va_up_self, tw_cw_g (by decide) (by decide), tw_p2_10 (by decide +kernel)]
    · rw [va_up_ne _ _ h2]
      by_cases h3 : q = 0
      · subst h3; rw [tw_cw_s, tw_cw_s]
      · rw [tw_cw_g (by omega) hq, tw_cw_g (by omega) hq]
        exact tw_E_cong (tw_up_n h2).symm
  generalize tw_up σ1 1 10 33 = σ at h0 hQ ⊢
  refine k_new (ci := 10) (T := TX10) (N := 4) (fs := [.null, .null, .null, .null]) (mm := 33) (c := 32) (s := 319) (c' := 33) (s' := 323) X dX11_init_27 _ tw_u264 tw_u265 tw_u42 tw_in10 tyX10 tyX10_ok rfl tw_df10 (by rw [eR]; exact Nat.le_of_ble_eq_true rfl) (by rw [eR]; exact Nat.le_of_ble_eq_true rfl) rfl rfl ?_
  refine c_dup (z := tw_cz z 33 323) X dX11_init_30 rfl ?_
  refine c_aload_n (z := tw_cz z 33 323) X dX11_init_31 rfl 0 rfl ?_
  refine k_init (rm := { frames := 3, cells := 100, slots := 1835, locals := 62 }) (c := 33) (s := 323) (c' := 133) (s' := 2158) (m := 33) (m' := 134) (As := [.ref (tw_zB z + 1)]) X hAK hz (by omega) dX11_init_32 (tw_i_X10 (σ := σ) (fun q a b => h0 q (by omega) (by omega)) (va_up_self _ _ _)) tw_y_X10_init tw_u267 rfl _ tw_u266 rfl (by rw [eR]; exact Nat.le_of_ble_eq_true rfl) (by rw [eR]; exact Nat.le_of_ble_eq_true rfl) (by rw [eR]; exact Nat.le_of_ble_eq_true rfl) (by rw [eR]; exact Nat.le_of_ble_eq_true rfl) rfl rfl (Nat.le_of_ble_eq_true rfl) rfl (by omega) rfl ?_
  refine c_astore_n (z := tw_cz z 133 2158) X dX11_init_35 rfl (by decide) (L' := [(2, .ref (tw_zB z + 33)), (1, .ref (tw_zB z + 1)), (0, .ref (tw_zB z + 0))]) rfl ?_
  refine k_new (ci := 8) (T := TX8) (N := 4) (fs := [.null, .null, .null, .null]) (mm := 134) (c := 133) (s := 2158) (c' := 134) (s' := 2162) X dX11_init_36 _ tw_u301 tw_u302 tw_u44 tw_in8 tyX8 tyX8_ok rfl tw_df8 (by rw [eR]; exact Nat.le_of_ble_eq_true rfl) (by rw [eR]; exact Nat.le_of_ble_eq_true rfl) rfl rfl ?_
  refine c_dup (z := tw_cz z 134 2162) X dX11_init_39 rfl ?_
  refine c_aload_n (z := tw_cz z 134 2162) X dX11_init_40 rfl 1 rfl ?_
  refine c_aload_n (z := tw_cz z 134 2162) X dX11_init_41 rfl 0 rfl ?_
  refine k_init (rm := { frames := 3, cells := 7, slots := 1131, locals := 61 }) (c := 134) (s := 2162) (c' := 141) (s' := 3293) (m := 134) (m' := 142) (As := [.ref (tw_zB z + 1), .ref (tw_zB z + 33)]) X hAK hz (by omega) dX11_init_42 (tw_i_X8 (σ := σ) (fun q a b => h0 q (by omega) (by omega)) (va_up_self _ _ _)) tw_y_X8_init tw_u304 rfl _ tw_u303 rfl (by rw [eR]; exact Nat.le_of_ble_eq_true rfl) (by rw [eR]; exact Nat.le_of_ble_eq_true rfl) (by rw [eR]; exact Nat.le_of_ble_eq_true rfl) (by rw [eR]; exact Nat.le_of_ble_eq_true rfl) rfl rfl (Nat.le_of_ble_eq_true rfl) rfl (by omega) rfl ?_
  refine c_astore_n (z := tw_cz z 141 3293) X dX11_init_45 rfl (by decide) (L' := [(3, .ref (tw_zB z + 134)), (2, .ref (tw_zB z + 33)), (1, .ref (tw_zB z + 1)), (0, .ref (tw_zB z + 0))]) rfl ?_
  refine c_aload_n (z := tw_cz z 141 3293) X dX11_init_46 rfl 3 rfl ?_
  refine c_aload_n (z := tw_cz z 141 3293) X dX11_init_47 rfl 2 rfl ?_
  refine k_putF (ci := 11) (T := TX11) (f := 0) (fs' := [.ref (tw_zB z + 1), .null, .null, .null, .null, .null, .int 0]) (ty := .object "TreasureWalk$Data") X hnm hz (by omega) dX11_init_48 _ tw_u431 tw_in11 tyX11 tyX11_ok nmX11 rfl (by decide) rfl rfl (by decide +kernel) rfl rfl (by omega) (Nat.le_of_ble_eq_true rfl) rfl ?_
  refine c_aload_n (z := tw_cz z 141 3293) X dX11_init_51 rfl 3 rfl ?_
  refine k_new (ci := 4) (T := TX4) (N := 3) (fs := [.null, .int 0, .int 0]) (mm := 142) (c := 141) (s := 3293) (c' := 142) (s' := 3296) X dX11_init_52 _ tw_u338 tw_u339 tw_u46 tw_in4 tyX4 tyX4_ok rfl tw_df4 (by rw [eR]; exact Nat.le_of_ble_eq_true rfl) (by rw [eR]; exact Nat.le_of_ble_eq_true rfl) rfl rfl ?_
  refine c_dup (z := tw_cz z 142 3296) X dX11_init_55 rfl ?_
  refine k_init (rm := { frames := 4, cells := 257, slots := 2560, locals := 81 }) (c := 142) (s := 3296) (c' := 399) (s' := 5856) (m := 142) (m' := 400) (As := []) X hAK hz (by omega) dX11_init_56 (tw_i_X4 (σ := σ) (fun q a b => h0 q (by omega) (by omega)) (va_up_self _ _ _)) tw_y_X4_init tw_u341 rfl _ tw_u340 rfl (by rw [eR]; exact Nat.le_of_ble_eq_true rfl) (by rw [eR]; exact Nat.le_of_ble_eq_true rfl) (by rw [eR]; exact Nat.le_of_ble_eq_true rfl) (by rw [eR]; exact Nat.le_of_ble_eq_true rfl) rfl rfl (Nat.le_of_ble_eq_true rfl) rfl (by omega) rfl ?_
  refine k_putF (ci := 11) (T := TX11) (f := 1) (fs' := [.ref (tw_zB z + 1), .ref (tw_zB z + 142), .null, .null, .null, .null, .int 0]) (ty := .object "TreasureWalk$History") X hnm hz (by omega) dX11_init_59 _ tw_u432 tw_in11 tyX11 tyX11_ok nmX11 rfl (by decide) rfl rfl (by decide +kernel) rfl rfl (by omega) (Nat.le_of_ble_eq_true rfl) rfl ?_
  refine c_aload_n (z := tw_cz z 399 5856) X dX11_init_62 rfl 3 rfl ?_
  refine k_new (ci := 6) (T := TX6) (N := 11) (fs := [.null, .int 0, .null, .int 0, .int 0, .int 0, .int 0, .int 0, .int 0, .int 0, .int 0]) (mm := 400) (c := 399) (s := 5856) (c' := 400) (s' := 5867) X dX11_init_63 _ tw_u358 tw_u359 tw_u47 tw_in6 tyX6 tyX6_ok rfl tw_df6 (by rw [eR]; exact Nat.le_of_ble_eq_true rfl) (by rw [eR]; exact Nat.le_of_ble_eq_true rfl) rfl rfl ?_
  refine c_dup (z := tw_cz z 400 5867) X dX11_init_66 rfl ?_
  refine k_initN (rm := { frames := 4, cells := 34, slots := 920, locals := 81 }) (c := 400) (s := 5867) (c' := 434) (s' := 6787) (m := 400) (m' := 435) (As := []) X hAK hz (by omega) dX11_init_67 (tw_i_X6 (σ := σ) (fun q a b => h0 q (by omega) (by omega)) (va_up_self _ _ _)) tw_y_X6_init tw_u361 rfl _ tw_u360 rfl (by rw [eR]; exact Nat.le_of_ble_eq_true rfl) (by rw [eR]; exact Nat.le_of_ble_eq_true rfl) (by rw [eR]; exact Nat.le_of_ble_eq_true rfl) (by rw [eR]; exact Nat.le_of_ble_eq_true rfl) rfl rfl (Nat.le_of_ble_eq_true rfl) rfl (by omega) rfl ?_
  refine k_putF (ci := 11) (T := TX11) (f := 2) (fs' := [.ref (tw_zB z + 1), .ref (tw_zB z + 142), .ref (tw_zB z + 400), .null, .null, .null, .int 0]) (ty := .object "TreasureWalk$Reader") X hnm hz (by omega) dX11_init_70 _ tw_u433 tw_in11 tyX11 tyX11_ok nmX11 rfl (by decide) rfl rfl (by decide +kernel) rfl rfl (by omega) (Nat.le_of_ble_eq_true rfl) rfl ?_
  refine c_aload_n (z := tw_cz z 434 6787) X dX11_init_73 rfl 3 rfl ?_
  refine c_aload_n (z := tw_cz z 434 6787) X dX11_init_74 rfl 1 rfl ?_
  refine k_putF (ci := 11) (T := TX11) (f := 3) (fs' := [.ref (tw_zB z + 1), .ref (tw_zB z + 142), .ref (tw_zB z + 400), .ref (tw_zB z + 33), .null, .null, .int 0]) (ty := .object "TreasureWalk$Trails") X hnm hz (by omega) dX11_init_75 _ tw_u434 tw_in11 tyX11 tyX11_ok nmX11 rfl (by decide) rfl rfl (by decide +kernel) rfl rfl (by omega) (Nat.le_of_ble_eq_true rfl) rfl ?_
  refine c_aload_n (z := tw_cz z 434 6787) X dX11_init_78 rfl 3 rfl ?_
  refine c_aload_n (z := tw_cz z 434 6787) X dX11_init_79 rfl 0 rfl ?_
  refine k_putF (ci := 11) (T := TX11) (f := 4) (fs' := [.ref (tw_zB z + 1), .ref (tw_zB z + 142), .ref (tw_zB z + 400), .ref (tw_zB z + 33), .ref (tw_zB z + 134), .null, .int 0]) (ty := .object "TreasureWalk$Survey") X hnm hz (by omega) dX11_init_80 _ tw_u435 tw_in11 tyX11 tyX11_ok nmX11 rfl (by decide) rfl rfl (by decide +kernel) rfl rfl (by omega) (Nat.le_of_ble_eq_true rfl) rfl ?_
  refine c_aload_n (z := tw_cz z 434 6787) X dX11_init_83 rfl 3 rfl ?_
  refine k_new (ci := 9) (T := TX9) (N := 6) (fs := [.null, .null, .int 0, .null, .null, .null]) (mm := 435) (c := 434) (s := 6787) (c' := 435) (s' := 6793) X dX11_init_84 _ tw_u405 tw_u406 tw_u48 tw_in9 tyX9 tyX9_ok rfl tw_df9 (by rw [eR]; exact Nat.le_of_ble_eq_true rfl) (by rw [eR]; exact Nat.le_of_ble_eq_true rfl) rfl rfl ?_
  refine c_dup (z := tw_cz z 435 6793) X dX11_init_87 rfl ?_
  refine c_aload_n (z := tw_cz z 435 6793) X dX11_init_88 rfl 2 rfl ?_
  refine c_aload_n (z := tw_cz z 435 6793) X dX11_init_89 rfl 0 rfl ?_
  refine k_init (rm := { frames := 2, cells := 6, slots := 4710, locals := 41 }) (c := 435) (s := 6793) (c' := 441) (s' := 11503) (m := 435) (m' := 442) (As := [.ref (tw_zB z + 1), .ref (tw_zB z + 134)]) X hAK hz (by omega) dX11_init_90 (tw_i_X9 (σ := σ) (fun q a b => h0 q (by omega) (by omega)) (va_up_self _ _ _)) tw_y_X9_init tw_u408 rfl _ tw_u407 rfl (by rw [eR]; exact Nat.le_of_ble_eq_true rfl) (by rw [eR]; exact Nat.le_of_ble_eq_true rfl) (by rw [eR]; exact Nat.le_of_ble_eq_true rfl) (by rw [eR]; exact Nat.le_of_ble_eq_true rfl) rfl rfl (Nat.le_of_ble_eq_true rfl) rfl (by omega) rfl ?_
  refine k_putF (ci := 11) (T := TX11) (f := 5) (fs' := [.ref (tw_zB z + 1), .ref (tw_zB z + 142), .ref (tw_zB z + 400), .ref (tw_zB z + 33), .ref (tw_zB z + 134), .ref (tw_zB z + 435), .int 0]) (ty := .object "TreasureWalk$Tours") X hnm hz (by omega) dX11_init_93 _ tw_u436 tw_in11 tyX11 tyX11_ok nmX11 rfl (by decide) rfl rfl (by decide +kernel) rfl rfl (by omega) (Nat.le_of_ble_eq_true rfl) rfl ?_
  refine c_aload_n (z := tw_cz z 441 11503) X dX11_init_96 rfl 3 rfl ?_
  refine c_iconst (z := tw_cz z 441 11503) X dX11_init_97 (v := (-1 : Int32)) (by decide) ?_
  refine k_put (ci := 11) (T := TX11) (f := 6) (fs' := [.ref (tw_zB z + 1), .ref (tw_zB z + 142), .ref (tw_zB z + 400), .ref (tw_zB z + 33), .ref (tw_zB z + 134), .ref (tw_zB z + 435), .int (-1)]) (ty := .int) X  hz (by omega) dX11_init_98 _ tw_u437 tw_in11 tyX11 tyX11_ok nmX11 rfl (by decide) rfl (by decide +kernel) rfl rfl (by omega) (Nat.le_of_ble_eq_true rfl) rfl ?_
  refine k_ret (B := 0) dX11_init_101 hQ rfl rfl (fun q hq => ?_)
  unfold tw_fin
  rw [if_pos ⟨by omega, hq⟩]
  by_cases h2 : q = 0
  · subst h2
    rw [tw_cw_s, tw_E11 (by decide +kernel)]
    simp [tw_fs11, tw_up_s, upd]
  · rw [tw_cw_g (by omega) hq]
    exact tw_E_cong (tw_up_n h2).symm
