set_option maxRecDepth 100000 in
set_option maxHeartbeats 4000000 in
theorem tw_i_X7 {l : Launch} {B : Nat} {D : tw_G} {C : Nat → ClassId} {S : Nat → Nat} {σ : tw_Sg} {F : Nat → va_E} {k : Nat} {n : Int32} {N : Nat} (hk : tw_kd k = 7) (hl : tw_ln (k + 1) = N) (hn : Int32.ofNat N = n) (hN : 0 < N ∧ N ≤ 10000) (h0 : ∀ q, k ≤ q → q < (k + 2) → σ q = fun _ => 0) (hF : F k = .inr (7, [.null])) : tw_MetC l B D C S yX7_init cX7_init 2 { frames := 1, cells := 1, slots := N, locals := 20 } [.ref (B + k), .int n] F (k + 1) (tw_fin (tw_E B C σ) F k (k + 2)) (k + 2) := by
  refine tw_metOfC (by decide +kernel) (Nat.le_of_ble_eq_true rfl) ?_
  intro z el eB eD eC eS eR ec es hz hAK hnm X hret hQ
  subst el eB eD eC eS
  have X : tw_X z cX7_init "TreasureWalk$Row" 2 := X
  show tw_Rc z F (k + 1) 0 [(0, .ref (tw_zB z + k)), (1, .int n)] []
  refine tw_Rc.z0 ec es ?_
  refine tw_Rc.cong ?_ (tw_cw_0 (G := tw_E (tw_zB z) (tw_zC z) σ) hF)
  obtain ⟨hN1, hN2⟩ := hN
  have hpos : ¬ n ≤ 0 := by
    rw [← hn, show (0 : Int32) = Int32.ofNat 0 from rfl, tw_i32le (by omega) (by omega)]
    omega
  have hneg : ¬ n < 0 := by
    rw [← hn, show (0 : Int32) = Int32.ofNat 0 from rfl]
    intro h
    rw [Int32.lt_iff_toInt_lt, Int32.toInt_ofNat_of_lt (by omega), Int32.toInt_ofNat_of_lt (by omega)] at h
    omega
  have hnc : n.toNatClampNeg = N := by rw [← hn]; exact tw_i32n (by omega)
  have hb4 : N * 4 ≤ 536870912 := by omega
  refine c_aload_n (z := tw_cz z 0 0) X dX7_init_0 rfl 0 rfl ?_
  refine c_obj (z := tw_cz z 0 0) X dX7_init_1 _ tw_u100 (List.mem_of_getElem? tw_u76) (List.mem_of_getElem? tw_u77) (by show 1 ≤ (tw_zR z).frames; rw [eR]; exact Nat.le_of_ble_eq_true rfl) (by show 20 ≤ (tw_zR z).locals; rw [eR]; exact Nat.le_of_ble_eq_true rfl) (Nat.le_of_ble_eq_true rfl) ?_
  refine c_aload_n (z := tw_cz z 0 0) X dX7_init_4 rfl 0 rfl ?_
  refine c_iload_n (z := tw_cz z 0 0) X dX7_init_5 rfl 1 rfl ?_
  refine c_ifle (z := tw_cz z 0 0) X dX7_init_6 (tgt := 13) (by decide) hpos ?_
  refine c_iload_n (z := tw_cz z 0 0) X dX7_init_9 rfl 1 rfl ?_
  refine c_goto (z := tw_cz z 0 0) X dX7_init_10 (tgt := 14) (by decide) ?_
  refine k_newi (c := 0) (s := 0) (c' := 1) (s' := N) (m := (k + 1)) (N := N) X hAK dX7_init_14 hneg hnc hb4 (by rw [eR]; exact Nat.le_of_ble_eq_true rfl) (by rw [eR]; show 0 + N ≤ N; omega) rfl (Nat.zero_add N) (by omega) (by rw [tw_E13 (tw_k7_0 hk), hl, h0 (k + 1) (by omega) (by omega)]) ?_
  refine k_putF (ci := 7) (T := TX7) (f := 0) (fs' := [.ref (tw_zB z + (k + 1))]) (ty := .array (.int)) X hnm hz (by omega) dX7_init_16 _ tw_u101 tw_in7 tyX7 tyX7_ok nmX7 rfl (by decide) rfl rfl (by decide +kernel) rfl rfl (by omega) (Nat.le_of_ble_eq_true rfl) rfl ?_
  exact k_ret (B := 0) dX7_init_19 hQ rfl rfl (tw_cw_end (by omega) (by rw [tw_E7 hk]; simp [tw_fs7, h0 k (by omega) (by omega)]))
set_option maxRecDepth 100000 in
set_option maxHeartbeats 4000000 in
theorem tw_i_X0 {l : Launch} {B : Nat} {D : tw_G} {C : Nat → ClassId} {S : Nat → Nat} {σ : tw_Sg} {F : Nat → va_E} {k : Nat} (hk : tw_kd k = 0) (h0 : ∀ q, k ≤ q → q < (k + 2) → σ q = fun _ => 0) (hF : F k = .inr (0, [.null])) : tw_MetC l B D C S yX0_init cX0_init 1 { frames := 1, cells := 1, slots := 22, locals := 20 } [.ref (B + k)] F (k + 1) (tw_fin (tw_E B C σ) F k (k + 2)) (k + 2) := by
  refine tw_metOfC (by decide +kernel) (Nat.le_of_ble_eq_true rfl) ?_
  intro z el eB eD eC eS eR ec es hz hAK hnm X hret hQ
  subst el eB eD eC eS
  have X : tw_X z cX0_init "TreasureWalk$Cells" 1 := X
  show tw_Rc z F (k + 1) 0 [(0, .ref (tw_zB z + k))] []
  refine tw_Rc.z0 ec es ?_
  refine tw_Rc.cong ?_ (tw_cw_0 (G := tw_E (tw_zB z) (tw_zC z) σ) hF)
  refine c_aload_n (z := tw_cz z 0 0) X dX0_init_0 rfl 0 rfl ?_
  refine c_obj (z := tw_cz z 0 0) X dX0_init_1 _ tw_u89 (List.mem_of_getElem? tw_u76) (List.mem_of_getElem? tw_u77) (by show 1 ≤ (tw_zR z).frames; rw [eR]; exact Nat.le_of_ble_eq_true rfl) (by show 20 ≤ (tw_zR z).locals; rw [eR]; exact Nat.le_of_ble_eq_true rfl) (Nat.le_of_ble_eq_true rfl) ?_
  refine c_aload_n (z := tw_cz z 0 0) X dX0_init_4 rfl 0 rfl ?_
  refine c_bipush (z := tw_cz z 0 0) X dX0_init_5 (v := (22 : Int32)) (by decide) ?_
  refine k_newi (c := 0) (s := 0) (c' := 1) (s' := 22) (m := (k + 1)) (N := 22) X hAK dX0_init_7 (by decide) (by decide) (by omega) (by rw [eR]; exact Nat.le_of_ble_eq_true rfl) (by rw [eR]; exact Nat.le_of_ble_eq_true rfl) rfl rfl (by omega) (by rw [tw_E13 (tw_k0_0 hk), tw_ln0_1 hk, h0 (k + 1) (by omega) (by omega)]) ?_
  refine k_putF (ci := 0) (T := TX0) (f := 0) (fs' := [.ref (tw_zB z + (k + 1))]) (ty := .array (.int)) X hnm hz (by omega) dX0_init_9 _ tw_u90 tw_in0 tyX0 tyX0_ok nmX0 rfl (by decide) rfl rfl (by decide +kernel) rfl rfl (by omega) (Nat.le_of_ble_eq_true rfl) rfl ?_
  exact k_ret (B := 0) dX0_init_12 hQ rfl rfl (tw_cw_end (by omega) (by rw [tw_E0 hk]; simp [tw_fs0, h0 k (by omega) (by omega)]))
set_option maxRecDepth 100000 in
set_option maxHeartbeats 4000000 in
theorem tw_i_X1 {l : Launch} {B : Nat} {D : tw_G} {C : Nat → ClassId} {S : Nat → Nat} {σ : tw_Sg} {F : Nat → va_E} {k : Nat} (hk : tw_kd k = 1) (h0 : ∀ q, k ≤ q → q < (k + 19) → σ q = fun _ => 0) (hF : F k = .inr (1, [.int 0, .null, .null, .null, .null, .null, .null, .null, .null, .null])) : tw_MetC l B D C S yX1_init cX1_init 1 { frames := 2, cells := 18, slots := 213, locals := 41 } [.ref (B + k)] F (k + 1) (tw_fin (tw_E B C σ) F k (k + 19)) (k + 19) := by
  refine tw_metOfC (by decide +kernel) (Nat.le_of_ble_eq_true rfl) ?_
  intro z el eB eD eC eS eR ec es hz hAK hnm X hret hQ
  subst el eB eD eC eS
  have X : tw_X z cX1_init "TreasureWalk$Clues" 1 := X
  show tw_Rc z F (k + 1) 0 [(0, .ref (tw_zB z + k))] []
  refine tw_Rc.z0 ec es ?_
  refine tw_Rc.cong ?_ (tw_cw_0 (G := tw_E (tw_zB z) (tw_zC z) σ) hF)
  refine c_aload_n (z := tw_cz z 0 0) X dX1_init_0 rfl 0 rfl ?_
  refine c_obj (z := tw_cz z 0 0) X dX1_init_1 _ tw_u110 (List.mem_of_getElem? tw_u76) (List.mem_of_getElem? tw_u77) (by show 1 ≤ (tw_zR z).frames; rw [eR]; exact Nat.le_of_ble_eq_true rfl) (by show 20 ≤ (tw_zR z).locals; rw [eR]; exact Nat.le_of_ble_eq_true rfl) (Nat.le_of_ble_eq_true rfl) ?_
  refine c_aload_n (z := tw_cz z 0 0) X dX1_init_4 rfl 0 rfl ?_
  refine k_new (ci := 7) (T := TX7) (N := 1) (fs := [.null]) (mm := (k + 1)) (c := 0) (s := 0) (c' := 1) (s' := 1) X dX1_init_5 _ tw_u111 tw_u96 tw_u39 tw_in7 tyX7 tyX7_ok rfl tw_df7 (by rw [eR]; exact Nat.le_of_ble_eq_true rfl) (by rw [eR]; exact Nat.le_of_ble_eq_true rfl) rfl rfl ?_
  refine c_dup (z := tw_cz z 1 1) X dX1_init_8 rfl ?_
  refine c_iconst (z := tw_cz z 1 1) X dX1_init_9 (v := (4 : Int32)) (by decide) ?_
  refine k_init (rm := { frames := 1, cells := 1, slots := 4, locals := 20 }) (c := 1) (s := 1) (c' := 2) (s' := 5) (m := (k + 1)) (m' := (k + 3)) (As := [.int 4]) X hAK hz (by omega) dX1_init_10 (tw_i_X7 (σ := σ) (N := 4) (tw_kd1_1 hk) (tw_ln1_2 hk) rfl (by decide) (fun q a b => h0 q (by omega) (by omega)) (va_up_self _ _ _)) tw_y_X7_init tw_u98 rfl _ tw_u112 rfl (by rw [eR]; exact Nat.le_of_ble_eq_true rfl) (by rw [eR]; exact Nat.le_of_ble_eq_true rfl) (by rw [eR]; exact Nat.le_of_ble_eq_true rfl) (by rw [eR]; exact Nat.le_of_ble_eq_true rfl) rfl rfl (Nat.le_of_ble_eq_true rfl) rfl (by omega) rfl ?_
  refine k_putF (ci := 1) (T := TX1) (f := 1) (fs' := [.int 0, .ref (tw_zB z + (k + 1)), .null, .null, .null, .null, .null, .null, .null, .null]) (ty := .object "TreasureWalk$Row") X hnm hz (by omega) dX1_init_13 _ tw_u118 tw_in1 tyX1 tyX1_ok nmX1 rfl (by decide) rfl rfl (by decide +kernel) rfl rfl (by omega) (Nat.le_of_ble_eq_true rfl) rfl ?_
  refine c_aload_n (z := tw_cz z 2 5) X dX1_init_16 rfl 0 rfl ?_
  refine k_new (ci := 7) (T := TX7) (N := 1) (fs := [.null]) (mm := (k + 3)) (c := 2) (s := 5) (c' := 3) (s' := 6) X dX1_init_17 _ tw_u111 tw_u96 tw_u39 tw_in7 tyX7 tyX7_ok rfl tw_df7 (by rw [eR]; exact Nat.le_of_ble_eq_true rfl) (by rw [eR]; exact Nat.le_of_ble_eq_true rfl) rfl rfl ?_
  refine c_dup (z := tw_cz z 3 6) X dX1_init_20 rfl ?_
  refine c_iconst (z := tw_cz z 3 6) X dX1_init_21 (v := (4 : Int32)) (by decide) ?_
  refine k_init (rm := { frames := 1, cells := 1, slots := 4, locals := 20 }) (c := 3) (s := 6) (c' := 4) (s' := 10) (m := (k + 3)) (m' := (k + 5)) (As := [.int 4]) X hAK hz (by omega) dX1_init_22 (tw_i_X7 (σ := σ) (N := 4) (tw_kd1_3 hk) (tw_ln1_4 hk) rfl (by decide) (fun q a b => h0 q (by omega) (by omega)) (va_up_self _ _ _)) tw_y_X7_init tw_u98 rfl _ tw_u112 rfl (by rw [eR]; exact Nat.le_of_ble_eq_true rfl) (by rw [eR]; exact Nat.le_of_ble_eq_true rfl) (by rw [eR]; exact Nat.le_of_ble_eq_true rfl) (by rw [eR]; exact Nat.le_of_ble_eq_true rfl) rfl rfl (Nat.le_of_ble_eq_true rfl) rfl (by omega) rfl ?_
  refine k_putF (ci := 1) (T := TX1) (f := 2) (fs' := [.int 0, .ref (tw_zB z + (k + 1)), .ref (tw_zB z + (k + 3)), .null, .null, .null, .null, .null, .null, .null]) (ty := .object "TreasureWalk$Row") X hnm hz (by omega) dX1_init_25 _ tw_u121 tw_in1 tyX1 tyX1_ok nmX1 rfl (by decide) rfl rfl (by decide +kernel) rfl rfl (by omega) (Nat.le_of_ble_eq_true rfl) rfl ?_
  refine c_aload_n (z := tw_cz z 4 10) X dX1_init_28 rfl 0 rfl ?_
  refine k_new (ci := 7) (T := TX7) (N := 1) (fs := [.null]) (mm := (k + 5)) (c := 4) (s := 10) (c' := 5) (s' := 11) X dX1_init_29 _ tw_u111 tw_u96 tw_u39 tw_in7 tyX7 tyX7_ok rfl tw_df7 (by rw [eR]; exact Nat.le_of_ble_eq_true rfl) (by rw [eR]; exact Nat.le_of_ble_eq_true rfl) rfl rfl ?_
  refine c_dup (z := tw_cz z 5 11) X dX1_init_32 rfl ?_
  refine c_bipush (z := tw_cz z 5 11) X dX1_init_33 (v := (32 : Int32)) (by decide) ?_
  refine k_init (rm := { frames := 1, cells := 1, slots := 32, locals := 20 }) (c := 5) (s := 11) (c' := 6) (s' := 43) (m := (k + 5)) (m' := (k + 7)) (As := [.int 32]) X hAK hz (by omega) dX1_init_35 (tw_i_X7 (σ := σ) (N := 32) (tw_kd1_5 hk) (tw_ln1_6 hk) rfl (by decide) (fun q a b => h0 q (by omega) (by omega)) (va_up_self _ _ _)) tw_y_X7_init tw_u98 rfl _ tw_u112 rfl (by rw [eR]; exact Nat.le_of_ble_eq_true rfl) (by rw [eR]; exact Nat.le_of_ble_eq_true rfl) (by rw [eR]; exact Nat.le_of_ble_eq_true rfl) (by rw [eR]; exact Nat.le_of_ble_eq_true rfl) rfl rfl (Nat.le_of_ble_eq_true rfl) rfl (by omega) rfl ?_
  refine k_putF (ci := 1) (T := TX1) (f := 3) (fs' := [.int 0, .ref (tw_zB z + (k + 1)), .ref (tw_zB z + (k + 3)), .ref (tw_zB z + (k + 5)), .null, .null, .null, .null, .null, .null]) (ty := .object "TreasureWalk$Row") X hnm hz (by omega) dX1_init_38 _ tw_u123 tw_in1 tyX1 tyX1_ok nmX1 rfl (by decide) rfl rfl (by decide +kernel) rfl rfl (by omega) (Nat.le_of_ble_eq_true rfl) rfl ?_
  refine c_aload_n (z := tw_cz z 6 43) X dX1_init_41 rfl 0 rfl ?_
  refine k_new (ci := 7) (T := TX7) (N := 1) (fs := [.null]) (mm := (k + 7)) (c := 6) (s := 43) (c' := 7) (s' := 44) X dX1_init_42 _ tw_u111 tw_u96 tw_u39 tw_in7 tyX7 tyX7_ok rfl tw_df7 (by rw [eR]; exact Nat.le_of_ble_eq_true rfl) (by rw [eR]; exact Nat.le_of_ble_eq_true rfl) rfl rfl ?_
  refine c_dup (z := tw_cz z 7 44) X dX1_init_45 rfl ?_
  refine c_iconst (z := tw_cz z 7 44) X dX1_init_46 (v := (4 : Int32)) (by decide) ?_
  refine k_init (rm := { frames := 1, cells := 1, slots := 4, locals := 20 }) (c := 7) (s := 44) (c' := 8) (s' := 48) (m := (k + 7)) (m' := (k + 9)) (As := [.int 4]) X hAK hz (by omega) dX1_init_47 (tw_i_X7 (σ := σ) (N := 4) (tw_kd1_7 hk) (tw_ln1_8 hk) rfl (by decide) (fun q a b => h0 q (by omega) (by omega)) (va_up_self _ _ _)) tw_y_X7_init tw_u98 rfl _ tw_u112 rfl (by rw [eR]; exact Nat.le_of_ble_eq_true rfl) (by rw [eR]; exact Nat.le_of_ble_eq_true rfl) (by rw [eR]; exact Nat.le_of_ble_eq_true rfl) (by rw [eR]; exact Nat.le_of_ble_eq_true rfl) rfl rfl (Nat.le_of_ble_eq_true rfl) rfl (by omega) rfl ?_
  refine k_putF (ci := 1) (T := TX1) (f := 4) (fs' := [.int 0, .ref (tw_zB z + (k + 1)), .ref (tw_zB z + (k + 3)), .ref (tw_zB z + (k + 5)), .ref (tw_zB z + (k + 7)), .null, .null, .null, .null, .null]) (ty := .object "TreasureWalk$Row") X hnm hz (by omega) dX1_init_50 _ tw_u124 tw_in1 tyX1 tyX1_ok nmX1 rfl (by decide) rfl rfl (by decide +kernel) rfl rfl (by omega) (Nat.le_of_ble_eq_true rfl) rfl ?_
  refine c_aload_n (z := tw_cz z 8 48) X dX1_init_53 rfl 0 rfl ?_
  refine k_new (ci := 7) (T := TX7) (N := 1) (fs := [.null]) (mm := (k + 9)) (c := 8) (s := 48) (c' := 9) (s' := 49) X dX1_init_54 _ tw_u111 tw_u96 tw_u39 tw_in7 tyX7 tyX7_ok rfl tw_df7 (by rw [eR]; exact Nat.le_of_ble_eq_true rfl) (by rw [eR]; exact Nat.le_of_ble_eq_true rfl) rfl rfl ?_
  refine c_dup (z := tw_cz z 9 49) X dX1_init_57 rfl ?_
  refine c_bipush (z := tw_cz z 9 49) X dX1_init_58 (v := (32 : Int32)) (by decide) ?_
  refine k_init (rm := { frames := 1, cells := 1, slots := 32, locals := 20 }) (c := 9) (s := 49) (c' := 10) (s' := 81) (m := (k + 9)) (m' := (k + 11)) (As := [.int 32]) X hAK hz (by omega) dX1_init_60 (tw_i_X7 (σ := σ) (N := 32) (tw_kd1_9 hk) (tw_ln1_10 hk) rfl (by decide) (fun q a b => h0 q (by omega) (by omega)) (va_up_self _ _ _)) tw_y_X7_init tw_u98 rfl _ tw_u112 rfl (by rw [eR]; exact Nat.le_of_ble_eq_true rfl) (by rw [eR]; exact Nat.le_of_ble_eq_true rfl) (by rw [eR]; exact Nat.le_of_ble_eq_true rfl) (by rw [eR]; exact Nat.le_of_ble_eq_true rfl) rfl rfl (Nat.le_of_ble_eq_true rfl) rfl (by omega) rfl ?_
  refine k_putF (ci := 1) (T := TX1) (f := 5) (fs' := [.int 0, .ref (tw_zB z + (k + 1)), .ref (tw_zB z + (k + 3)), .ref (tw_zB z + (k + 5)), .ref (tw_zB z + (k + 7)), .ref (tw_zB z + (k + 9)), .null, .null, .null, .null]) (ty := .object "TreasureWalk$Row") X hnm hz (by omega) dX1_init_63 _ tw_u128 tw_in1 tyX1 tyX1_ok nmX1 rfl (by decide) rfl rfl (by decide +kernel) rfl rfl (by omega) (Nat.le_of_ble_eq_true rfl) rfl ?_
  refine c_aload_n (z := tw_cz z 10 81) X dX1_init_66 rfl 0 rfl ?_
  refine k_new (ci := 7) (T := TX7) (N := 1) (fs := [.null]) (mm := (k + 11)) (c := 10) (s := 81) (c' := 11) (s' := 82) X dX1_init_67 _ tw_u111 tw_u96 tw_u39 tw_in7 tyX7 tyX7_ok rfl tw_df7 (by rw [eR]; exact Nat.le_of_ble_eq_true rfl) (by rw [eR]; exact Nat.le_of_ble_eq_true rfl) rfl rfl ?_
  refine c_dup (z := tw_cz z 11 82) X dX1_init_70 rfl ?_
  refine c_bipush (z := tw_cz z 11 82) X dX1_init_71 (v := (32 : Int32)) (by decide) ?_
  refine k_init (rm := { frames := 1, cells := 1, slots := 32, locals := 20 }) (c := 11) (s := 82) (c' := 12) (s' := 114) (m := (k + 11)) (m' := (k + 13)) (As := [.int 32]) X hAK hz (by omega) dX1_init_73 (tw_i_X7 (σ := σ) (N := 32) (tw_kd1_11 hk) (tw_ln1_12 hk) rfl (by decide) (fun q a b => h0 q (by omega) (by omega)) (va_up_self _ _ _)) tw_y_X7_init tw_u98 rfl _ tw_u112 rfl (by rw [eR]; exact Nat.le_of_ble_eq_true rfl) (by rw [eR]; exact Nat.le_of_ble_eq_true rfl) (by rw [eR]; exact Nat.le_of_ble_eq_true rfl) (by rw [eR]; exact Nat.le_of_ble_eq_true rfl) rfl rfl (Nat.le_of_ble_eq_true rfl) rfl (by omega) rfl ?_
  refine k_putF (ci := 1) (T := TX1) (f := 6) (fs' := [.int 0, .ref (tw_zB z + (k + 1)), .ref (tw_zB z + (k + 3)), .ref (tw_zB z + (k + 5)), .ref (tw_zB z + (k + 7)), .ref (tw_zB z + (k + 9)), .ref (tw_zB z + (k + 11)), .null, .null, .null]) (ty := .object "TreasureWalk$Row") X hnm hz (by omega) dX1_init_76 _ tw_u131 tw_in1 tyX1 tyX1_ok nmX1 rfl (by decide) rfl rfl (by decide +kernel) rfl rfl (by omega) (Nat.le_of_ble_eq_true rfl) rfl ?_
  refine c_aload_n (z := tw_cz z 12 114) X dX1_init_79 rfl 0 rfl ?_
  refine k_new (ci := 7) (T := TX7) (N := 1) (fs := [.null]) (mm := (k + 13)) (c := 12) (s := 114) (c' := 13) (s' := 115) X dX1_init_80 _ tw_u111 tw_u96 tw_u39 tw_in7 tyX7 tyX7_ok rfl tw_df7 (by rw [eR]; exact Nat.le_of_ble_eq_true rfl) (by rw [eR]; exact Nat.le_of_ble_eq_true rfl) rfl rfl ?_
  refine c_dup (z := tw_cz z 13 115) X dX1_init_83 rfl ?_
  refine c_bipush (z := tw_cz z 13 115) X dX1_init_84 (v := (32 : Int32)) (by decide) ?_
  refine k_init (rm := { frames := 1, cells := 1, slots := 32, locals := 20 }) (c := 13) (s := 115) (c' := 14) (s' := 147) (m := (k + 13)) (m' := (k + 15)) (As := [.int 32]) X hAK hz (by omega) dX1_init_86 (tw_i_X7 (σ := σ) (N := 32) (tw_kd1_13 hk) (tw_ln1_14 hk) rfl (by decide) (fun q a b => h0 q (by omega) (by omega)) (va_up_self _ _ _)) tw_y_X7_init tw_u98 rfl _ tw_u112 rfl (by rw [eR]; exact Nat.le_of_ble_eq_true rfl) (by rw [eR]; exact Nat.le_of_ble_eq_true rfl) (by rw [eR]; exact Nat.le_of_ble_eq_true rfl) (by rw [eR]; exact Nat.le_of_ble_eq_true rfl) rfl rfl (Nat.le_of_ble_eq_true rfl) rfl (by omega) rfl ?_
  refine k_putF (ci := 1) (T := TX1) (f := 7) (fs' := [.int 0, .ref (tw_zB z + (k + 1)), .ref (tw_zB z + (k + 3)), .ref (tw_zB z + (k + 5)), .ref (tw_zB z + (k + 7)), .ref (tw_zB z + (k + 9)), .ref (tw_zB z + (k + 11)), .ref (tw_zB z + (k + 13)), .null, .null]) (ty := .object "TreasureWalk$Row") X hnm hz (by omega) dX1_init_89 _ tw_u134 tw_in1 tyX1 tyX1_ok nmX1 rfl (by decide) rfl rfl (by decide +kernel) rfl rfl (by omega) (Nat.le_of_ble_eq_true rfl) rfl ?_
  refine c_aload_n (z := tw_cz z 14 147) X dX1_init_92 rfl 0 rfl ?_
  refine k_new (ci := 7) (T := TX7) (N := 1) (fs := [.null]) (mm := (k + 15)) (c := 14) (s := 147) (c' := 15) (s' := 148) X dX1_init_93 _ tw_u111 tw_u96 tw_u39 tw_in7 tyX7 tyX7_ok rfl tw_df7 (by rw [eR]; exact Nat.le_of_ble_eq_true rfl) (by rw [eR]; exact Nat.le_of_ble_eq_true rfl) rfl rfl ?_
  refine c_dup (z := tw_cz z 15 148) X dX1_init_96 rfl ?_
  refine c_bipush (z := tw_cz z 15 148) X dX1_init_97 (v := (32 : Int32)) (by decide) ?_
  refine k_init (rm := { frames := 1, cells := 1, slots := 32, locals := 20 }) (c := 15) (s := 148) (c' := 16) (s' := 180) (m := (k + 15)) (m' := (k + 17)) (As := [.int 32]) X hAK hz (by omega) dX1_init_99 (tw_i_X7 (σ := σ) (N := 32) (tw_kd1_15 hk) (tw_ln1_16 hk) rfl (by decide) (fun q a b => h0 q (by omega) (by omega)) (va_up_self _ _ _)) tw_y_X7_init tw_u98 rfl _ tw_u112 rfl (by rw [eR]; exact Nat.le_of_ble_eq_true rfl) (by rw [eR]; exact Nat.le_of_ble_eq_true rfl) (by rw [eR]; exact Nat.le_of_ble_eq_true rfl) (by rw [eR]; exact Nat.le_of_ble_eq_true rfl) rfl rfl (Nat.le_of_ble_eq_true rfl) rfl (by omega) rfl ?_
  refine k_putF (ci := 1) (T := TX1) (f := 8) (fs' := [.int 0, .ref (tw_zB z + (k + 1)), .ref (tw_zB z + (k + 3)), .ref (tw_zB z + (k + 5)), .ref (tw_zB z + (k + 7)), .ref (tw_zB z + (k + 9)), .ref (tw_zB z + (k + 11)), .ref (tw_zB z + (k + 13)), .ref (tw_zB z + (k + 15)), .null]) (ty := .object "TreasureWalk$Row") X hnm hz (by omega) dX1_init_102 _ tw_u137 tw_in1 tyX1 tyX1_ok nmX1 rfl (by decide) rfl rfl (by decide +kernel) rfl rfl (by omega) (Nat.le_of_ble_eq_true rfl) rfl ?_
  refine c_aload_n (z := tw_cz z 16 180) X dX1_init_105 rfl 0 rfl ?_
  refine k_new (ci := 7) (T := TX7) (N := 1) (fs := [.null]) (mm := (k + 17)) (c := 16) (s := 180) (c' := 17) (s' := 181) X dX1_init_106 _ tw_u111 tw_u96 tw_u39 tw_in7 tyX7 tyX7_ok rfl tw_df7 (by rw [eR]; exact Nat.le_of_ble_eq_true rfl) (by rw [eR]; exact Nat.le_of_ble_eq_true rfl) rfl rfl ?_
  refine c_dup (z := tw_cz z 17 181) X dX1_init_109 rfl ?_
  refine c_bipush (z := tw_cz z 17 181) X dX1_init_110 (v := (32 : Int32)) (by decide) ?_
  refine k_init (rm := { frames := 1, cells := 1, slots := 32, locals := 20 }) (c := 17) (s := 181) (c' := 18) (s' := 213) (m := (k + 17)) (m' := (k + 19)) (As := [.int 32]) X hAK hz (by omega) dX1_init_112 (tw_i_X7 (σ := σ) (N := 32) (tw_kd1_17 hk) (tw_ln1_18 hk) rfl (by decide) (fun q a b => h0 q (by omega) (by omega)) (va_up_self _ _ _)) tw_y_X7_init tw_u98 rfl _ tw_u112 rfl (by rw [eR]; exact Nat.le_of_ble_eq_true rfl) (by rw [eR]; exact Nat.le_of_ble_eq_true rfl) (by rw [eR]; exact Nat.le_of_ble_eq_true rfl) (by rw [eR]; exact Nat.le_of_ble_eq_true rfl) rfl rfl (Nat.le_of_ble_eq_true rfl) rfl (by omega) rfl ?_
  refine k_putF (ci := 1) (T := TX1) (f := 9) (fs' := [.int 0, .ref (tw_zB z + (k + 1)), .ref (tw_zB z + (k + 3)), .ref (tw_zB z + (k + 5)), .ref (tw_zB z + (k + 7)), .ref (tw_zB z + (k + 9)), .ref (tw_zB z + (k + 11)), .ref (tw_zB z + (k + 13)), .ref (tw_zB z + (k + 15)), .ref (tw_zB z + (k + 17))]) (ty := .object "TreasureWalk$Row") X hnm hz (by omega) dX1_init_115 _ tw_u140 tw_in1 tyX1 tyX1_ok nmX1 rfl (by decide) rfl rfl (by decide +kernel) rfl rfl (by omega) (Nat.le_of_ble_eq_true rfl) rfl ?_
  exact k_ret (B := 0) dX1_init_118 hQ rfl rfl (tw_cw_end (by omega) (by rw [tw_E1 hk]; simp [tw_fs1, h0 k (by omega) (by omega)]))
set_option maxRecDepth 100000 in
set_option maxHeartbeats 4000000 in
theorem tw_i_X2 {l : Launch} {B : Nat} {D : tw_G} {C : Nat → ClassId} {S : Nat → Nat} {σ : tw_Sg} {F : Nat → va_E} {k : Nat} (hk : tw_kd k = 2) (h0 : ∀ q, k ≤ q → q < (k + 32) → σ q = fun _ => 0) (hF : F k = .inr (2, [.int 0, .int 0, .null, .null, .null, .int 0, .null, .null, .null, .null, .int 0, .int 0, .int 0, .int 0])) : tw_MetC l B D C S yX2_init cX2_init 1 { frames := 3, cells := 31, slots := 305, locals := 61 } [.ref (B + k)] F (k + 1) (tw_fin (tw_E B C σ) F k (k + 32)) (k + 32) := by
  refine tw_metOfC (by decide +kernel) (Nat.le_of_ble_eq_true rfl) ?_
  intro z el eB eD eC eS eR ec es hz hAK hnm X hret hQ
  subst el eB eD eC eS
  have X : tw_X z cX2_init "TreasureWalk$Data" 1 := X
  show tw_Rc z F (k + 1) 0 [(0, .ref (tw_zB z + k))] []
  refine tw_Rc.z0 ec es ?_
  refine tw_Rc.cong ?_ (tw_cw_0 (G := tw_E (tw_zB z) (tw_zC z) σ) hF)
  refine c_aload_n (z := tw_cz z 0 0) X dX2_init_0 rfl 0 rfl ?_
  refine c_obj (z := tw_cz z 0 0) X dX2_init_1 _ tw_u83 (List.mem_of_getElem? tw_u76) (List.mem_of_getElem? tw_u77) (by show 1 ≤ (tw_zR z).frames; rw [eR]; exact Nat.le_of_ble_eq_true rfl) (by show 20 ≤ (tw_zR z).locals; rw [eR]; exact Nat.le_of_ble_eq_true rfl) (Nat.le_of_ble_eq_true rfl) ?_
  refine c_aload_n (z := tw_cz z 0 0) X dX2_init_4 rfl 0 rfl ?_
  refine k_new (ci := 0) (T := TX0) (N := 1) (fs := [.null]) (mm := (k + 1)) (c := 0) (s := 0) (c' := 1) (s' := 1) X dX2_init_5 _ tw_u84 tw_u85 tw_u38 tw_in0 tyX0 tyX0_ok rfl tw_df0 (by rw [eR]; exact Nat.le_of_ble_eq_true rfl) (by rw [eR]; exact Nat.le_of_ble_eq_true rfl) rfl rfl ?_
  refine c_dup (z := tw_cz z 1 1) X dX2_init_8 rfl ?_
  refine k_initN (rm := { frames := 1, cells := 1, slots := 22, locals := 20 }) (c := 1) (s := 1) (c' := 2) (s' := 23) (m := (k + 1)) (m' := (k + 3)) (As := []) X hAK hz (by omega) dX2_init_9 (tw_i_X0 (σ := σ) (tw_kd2_1 hk) (fun q a b => h0 q (by omega) (by omega)) (va_up_self _ _ _)) tw_y_X0_init tw_u87 rfl _ tw_u86 rfl (by rw [eR]; exact Nat.le_of_ble_eq_true rfl) (by rw [eR]; exact Nat.le_of_ble_eq_true rfl) (by rw [eR]; exact Nat.le_of_ble_eq_true rfl) (by rw [eR]; exact Nat.le_of_ble_eq_true rfl) rfl rfl (Nat.le_of_ble_eq_true rfl) rfl (by omega) rfl ?_
  refine k_putF (ci := 2) (T := TX2) (f := 2) (fs' := [.int 0, .int 0, .ref (tw_zB z + (k + 1)), .null, .null, .int 0, .null, .null, .null, .null, .int 0, .int 0, .int 0, .int 0]) (ty := .object "TreasureWalk$Cells") X hnm hz (by omega) dX2_init_12 _ tw_u170 tw_in2 tyX2 tyX2_ok nmX2 rfl (by decide) rfl rfl (by decide +kernel) rfl rfl (by omega) (Nat.le_of_ble_eq_true rfl) rfl ?_
  refine c_aload_n (z := tw_cz z 2 23) X dX2_init_15 rfl 0 rfl ?_
  refine k_new (ci := 0) (T := TX0) (N := 1) (fs := [.null]) (mm := (k + 3)) (c := 2) (s := 23) (c' := 3) (s' := 24) X dX2_init_16 _ tw_u84 tw_u85 tw_u38 tw_in0 tyX0 tyX0_ok rfl tw_df0 (by rw [eR]; exact Nat.le_of_ble_eq_true rfl) (by rw [eR]; exact Nat.le_of_ble_eq_true rfl) rfl rfl ?_
  refine c_dup (z := tw_cz z 3 24) X dX2_init_19 rfl ?_
  refine k_initN (rm := { frames := 1, cells := 1, slots := 22, locals := 20 }) (c := 3) (s := 24) (c' := 4) (s' := 46) (m := (k + 3)) (m' := (k + 5)) (As := []) X hAK hz (by omega) dX2_init_20 (tw_i_X0 (σ := σ) (tw_kd2_3 hk) (fun q a b => h0 q (by omega) (by omega)) (va_up_self _ _ _)) tw_y_X0_init tw_u87 rfl _ tw_u86 rfl (by rw [eR]; exact Nat.le_of_ble_eq_true rfl) (by rw [eR]; exact Nat.le_of_ble_eq_true rfl) (by rw [eR]; exact Nat.le_of_ble_eq_true rfl) (by rw [eR]; exact Nat.le_of_ble_eq_true rfl) rfl rfl (Nat.le_of_ble_eq_true rfl) rfl (by omega) rfl ?_
  refine k_putF (ci := 2) (T := TX2) (f := 3) (fs' := [.int 0, .int 0, .ref (tw_zB z + (k + 1)), .ref (tw_zB z + (k + 3)), .null, .int 0, .null, .null, .null, .null, .int 0, .int 0, .int 0, .int 0]) (ty := .object "TreasureWalk$Cells") X hnm hz (by omega) dX2_init_23 _ tw_u175 tw_in2 tyX2 tyX2_ok nmX2 rfl (by decide) rfl rfl (by decide +kernel) rfl rfl (by omega) (Nat.le_of_ble_eq_true rfl) rfl ?_
  refine c_aload_n (z := tw_cz z 4 46) X dX2_init_26 rfl 0 rfl ?_
  refine k_new (ci := 7) (T := TX7) (N := 1) (fs := [.null]) (mm := (k + 5)) (c := 4) (s := 46) (c' := 5) (s' := 47) X dX2_init_27 _ tw_u95 tw_u96 tw_u39 tw_in7 tyX7 tyX7_ok rfl tw_df7 (by rw [eR]; exact Nat.le_of_ble_eq_true rfl) (by rw [eR]; exact Nat.le_of_ble_eq_true rfl) rfl rfl ?_
  refine c_dup (z := tw_cz z 5 47) X dX2_init_30 rfl ?_
  refine c_bipush (z := tw_cz z 5 47) X dX2_init_31 (v := (8 : Int32)) (by decide) ?_
  refine k_init (rm := { frames := 1, cells := 1, slots := 8, locals := 20 }) (c := 5) (s := 47) (c' := 6) (s' := 55) (m := (k + 5)) (m' := (k + 7)) (As := [.int 8]) X hAK hz (by omega) dX2_init_33 (tw_i_X7 (σ := σ) (N := 8) (tw_kd2_5 hk) (tw_ln2_6 hk) rfl (by decide) (fun q a b => h0 q (by omega) (by omega)) (va_up_self _ _ _)) tw_y_X7_init tw_u98 rfl _ tw_u97 rfl (by rw [eR]; exact Nat.le_of_ble_eq_true rfl) (by rw [eR]; exact Nat.le_of_ble_eq_true rfl) (by rw [eR]; exact Nat.le_of_ble_eq_true rfl) (by rw [eR]; exact Nat.le_of_ble_eq_true rfl) rfl rfl (Nat.le_of_ble_eq_true rfl) rfl (by omega) rfl ?_
  refine k_putF (ci := 2) (T := TX2) (f := 4) (fs' := [.int 0, .int 0, .ref (tw_zB z + (k + 1)), .ref (tw_zB z + (k + 3)), .ref (tw_zB z + (k + 5)), .int 0, .null, .null, .null, .null, .int 0, .int 0, .int 0, .int 0]) (ty := .object "TreasureWalk$Row") X hnm hz (by omega) dX2_init_36 _ tw_u178 tw_in2 tyX2 tyX2_ok nmX2 rfl (by decide) rfl rfl (by decide +kernel) rfl rfl (by omega) (Nat.le_of_ble_eq_true rfl) rfl ?_
  refine c_aload_n (z := tw_cz z 6 55) X dX2_init_39 rfl 0 rfl ?_
  refine k_new (ci := 7) (T := TX7) (N := 1) (fs := [.null]) (mm := (k + 7)) (c := 6) (s := 55) (c' := 7) (s' := 56) X dX2_init_40 _ tw_u95 tw_u96 tw_u39 tw_in7 tyX7 tyX7_ok rfl tw_df7 (by rw [eR]; exact Nat.le_of_ble_eq_true rfl) (by rw [eR]; exact Nat.le_of_ble_eq_true rfl) rfl rfl ?_
  refine c_dup (z := tw_cz z 7 56) X dX2_init_43 rfl ?_
  refine c_bipush (z := tw_cz z 7 56) X dX2_init_44 (v := (8 : Int32)) (by decide) ?_
  refine k_init (rm := { frames := 1, cells := 1, slots := 8, locals := 20 }) (c := 7) (s := 56) (c' := 8) (s' := 64) (m := (k + 7)) (m' := (k + 9)) (As := [.int 8]) X hAK hz (by omega) dX2_init_46 (tw_i_X7 (σ := σ) (N := 8) (tw_kd2_7 hk) (tw_ln2_8 hk) rfl (by decide) (fun q a b => h0 q (by omega) (by omega)) (va_up_self _ _ _)) tw_y_X7_init tw_u98 rfl _ tw_u97 rfl (by rw [eR]; exact Nat.le_of_ble_eq_true rfl) (by rw [eR]; exact Nat.le_of_ble_eq_true rfl) (by rw [eR]; exact Nat.le_of_ble_eq_true rfl) (by rw [eR]; exact Nat.le_of_ble_eq_true rfl) rfl rfl (Nat.le_of_ble_eq_true rfl) rfl (by omega) rfl ?_
  refine k_putF (ci := 2) (T := TX2) (f := 6) (fs' := [.int 0, .int 0, .ref (tw_zB z + (k + 1)), .ref (tw_zB z + (k + 3)), .ref (tw_zB z + (k + 5)), .int 0, .ref (tw_zB z + (k + 7)), .null, .null, .null, .int 0, .int 0, .int 0, .int 0]) (ty := .object "TreasureWalk$Row") X hnm hz (by omega) dX2_init_49 _ tw_u185 tw_in2 tyX2 tyX2_ok nmX2 rfl (by decide) rfl rfl (by decide +kernel) rfl rfl (by omega) (Nat.le_of_ble_eq_true rfl) rfl ?_
  refine c_aload_n (z := tw_cz z 8 64) X dX2_init_52 rfl 0 rfl ?_
  refine k_new (ci := 7) (T := TX7) (N := 1) (fs := [.null]) (mm := (k + 9)) (c := 8) (s := 64) (c' := 9) (s' := 65) X dX2_init_53 _ tw_u95 tw_u96 tw_u39 tw_in7 tyX7 tyX7_ok rfl tw_df7 (by rw [eR]; exact Nat.le_of_ble_eq_true rfl) (by rw [eR]; exact Nat.le_of_ble_eq_true rfl) rfl rfl ?_
  refine c_dup (z := tw_cz z 9 65) X dX2_init_56 rfl ?_
  refine c_bipush (z := tw_cz z 9 65) X dX2_init_57 (v := (8 : Int32)) (by decide) ?_
  refine k_init (rm := { frames := 1, cells := 1, slots := 8, locals := 20 }) (c := 9) (s := 65) (c' := 10) (s' := 73) (m := (k + 9)) (m' := (k + 11)) (As := [.int 8]) X hAK hz (by omega) dX2_init_59 (tw_i_X7 (σ := σ) (N := 8) (tw_kd2_9 hk) (tw_ln2_10 hk) rfl (by decide) (fun q a b => h0 q (by omega) (by omega)) (va_up_self _ _ _)) tw_y_X7_init tw_u98 rfl _ tw_u97 rfl (by rw [eR]; exact Nat.le_of_ble_eq_true rfl) (by rw [eR]; exact Nat.le_of_ble_eq_true rfl) (by rw [eR]; exact Nat.le_of_ble_eq_true rfl) (by rw [eR]; exact Nat.le_of_ble_eq_true rfl) rfl rfl (Nat.le_of_ble_eq_true rfl) rfl (by omega) rfl ?_
  refine k_putF (ci := 2) (T := TX2) (f := 7) (fs' := [.int 0, .int 0, .ref (tw_zB z + (k + 1)), .ref (tw_zB z + (k + 3)), .ref (tw_zB z + (k + 5)), .int 0, .ref (tw_zB z + (k + 7)), .ref (tw_zB z + (k + 9)), .null, .null, .int 0, .int 0, .int 0, .int 0]) (ty := .object "TreasureWalk$Row") X hnm hz (by omega) dX2_init_62 _ tw_u187 tw_in2 tyX2 tyX2_ok nmX2 rfl (by decide) rfl rfl (by decide +kernel) rfl rfl (by omega) (Nat.le_of_ble_eq_true rfl) rfl ?_
  refine c_aload_n (z := tw_cz z 10 73) X dX2_init_65 rfl 0 rfl ?_
  refine k_new (ci := 7) (T := TX7) (N := 1) (fs := [.null]) (mm := (k + 11)) (c := 10) (s := 73) (c' := 11) (s' := 74) X dX2_init_66 _ tw_u95 tw_u96 tw_u39 tw_in7 tyX7 tyX7_ok rfl tw_df7 (by rw [eR]; exact Nat.le_of_ble_eq_true rfl) (by rw [eR]; exact Nat.le_of_ble_eq_true rfl) rfl rfl ?_
  refine c_dup (z := tw_cz z 11 74) X dX2_init_69 rfl ?_
  refine c_bipush (z := tw_cz z 11 74) X dX2_init_70 (v := (8 : Int32)) (by decide) ?_
  refine k_init (rm := { frames := 1, cells := 1, slots := 8, locals := 20 }) (c := 11) (s := 74) (c' := 12) (s' := 82) (m := (k + 11)) (m' := (k + 13)) (As := [.int 8]) X hAK hz (by omega) dX2_init_72 (tw_i_X7 (σ := σ) (N := 8) (tw_kd2_11 hk) (tw_ln2_12 hk) rfl (by decide) (fun q a b => h0 q (by omega) (by omega)) (va_up_self _ _ _)) tw_y_X7_init tw_u98 rfl _ tw_u97 rfl (by rw [eR]; exact Nat.le_of_ble_eq_true rfl) (by rw [eR]; exact Nat.le_of_ble_eq_true rfl) (by rw [eR]; exact Nat.le_of_ble_eq_true rfl) (by rw [eR]; exact Nat.le_of_ble_eq_true rfl) rfl rfl (Nat.le_of_ble_eq_true rfl) rfl (by omega) rfl ?_
  refine k_putF (ci := 2) (T := TX2) (f := 8) (fs' := [.int 0, .int 0, .ref (tw_zB z + (k + 1)), .ref (tw_zB z + (k + 3)), .ref (tw_zB z + (k + 5)), .int 0, .ref (tw_zB z + (k + 7)), .ref (tw_zB z + (k + 9)), .ref (tw_zB z + (k + 11)), .null, .int 0, .int 0, .int 0, .int 0]) (ty := .object "TreasureWalk$Row") X hnm hz (by omega) dX2_init_75 _ tw_u189 tw_in2 tyX2 tyX2_ok nmX2 rfl (by decide) rfl rfl (by decide +kernel) rfl rfl (by omega) (Nat.le_of_ble_eq_true rfl) rfl ?_
  refine c_aload_n (z := tw_cz z 12 82) X dX2_init_78 rfl 0 rfl ?_
  refine k_new (ci := 1) (T := TX1) (N := 10) (fs := [.int 0, .null, .null, .null, .null, .null, .null, .null, .null, .null]) (mm := (k + 13)) (c := 12) (s := 82) (c' := 13) (s' := 92) X dX2_init_79 _ tw_u105 tw_u106 tw_u40 tw_in1 tyX1 tyX1_ok rfl tw_df1 (by rw [eR]; exact Nat.le_of_ble_eq_true rfl) (by rw [eR]; exact Nat.le_of_ble_eq_true rfl) rfl rfl ?_
  refine c_dup (z := tw_cz z 13 92) X dX2_init_82 rfl ?_
  refine k_initN (rm := { frames := 2, cells := 18, slots := 213, locals := 41 }) (c := 13) (s := 92) (c' := 31) (s' := 305) (m := (k + 13)) (m' := (k + 32)) (As := []) X hAK hz (by omega) dX2_init_83 (tw_i_X1 (σ := σ) (tw_kd2_13 hk) (fun q a b => h0 q (by omega) (by omega)) (va_up_self _ _ _)) tw_y_X1_init tw_u108 rfl _ tw_u107 rfl (by rw [eR]; exact Nat.le_of_ble_eq_true rfl) (by rw [eR]; exact Nat.le_of_ble_eq_true rfl) (by rw [eR]; exact Nat.le_of_ble_eq_true rfl) (by rw [eR]; exact Nat.le_of_ble_eq_true rfl) rfl rfl (Nat.le_of_ble_eq_true rfl) rfl (by omega) rfl ?_
  refine k_putF (ci := 2) (T := TX2) (f := 9) (fs' := [.int 0, .int 0, .ref (tw_zB z + (k + 1)), .ref (tw_zB z + (k + 3)), .ref (tw_zB z + (k + 5)), .int 0, .ref (tw_zB z + (k + 7)), .ref (tw_zB z + (k + 9)), .ref (tw_zB z + (k + 11)), .ref (tw_zB z + (k + 13)), .int 0, .int 0, .int 0, .int 0]) (ty := .object "TreasureWalk$Clues") X hnm hz (by omega) dX2_init_86 _ tw_u192 tw_in2 tyX2 tyX2_ok nmX2 rfl (by decide) rfl rfl (by decide +kernel) rfl rfl (by omega) (Nat.le_of_ble_eq_true rfl) rfl ?_
  exact k_ret (B := 0) dX2_init_89 hQ rfl rfl (tw_cw_end (by omega) (by rw [tw_E2 hk]; simp [tw_fs2, h0 k (by omega) (by omega)]))
set_option maxRecDepth 100000 in
set_option maxHeartbeats 4000000 in
theorem tw_i_X3 {l : Launch} {B : Nat} {D : tw_G} {C : Nat → ClassId} {S : Nat → Nat} {σ : tw_Sg} {F : Nat → va_E} (h0 : ∀ q, 135 ≤ q → q < 140 → σ q = fun _ => 0) (hF : F 135 = .inr (3, [.null, .null])) : tw_MetC l B D C S yX3_init cX3_init 1 { frames := 2, cells := 4, slots := 1106, locals := 41 } [.ref (B + 135)] F 136 (tw_fin (tw_E B C σ) F 135 140) 140 := by
  refine tw_metOfC (by decide +kernel) (Nat.le_of_ble_eq_true rfl) ?_
  intro z el eB eD eC eS eR ec es hz hAK hnm X hret hQ
  subst el eB eD eC eS
  have X : tw_X z cX3_init "TreasureWalk$Flood" 1 := X
  show tw_Rc z F 136 0 [(0, .ref (tw_zB z + 135))] []
  refine tw_Rc.z0 ec es ?_
  refine tw_Rc.cong ?_ (tw_cw_0 (G := tw_E (tw_zB z) (tw_zC z) σ) hF)
  refine c_aload_n (z := tw_cz z 0 0) X dX3_init_0 rfl 0 rfl ?_
  refine c_obj (z := tw_cz z 0 0) X dX3_init_1 _ tw_u312 (List.mem_of_getElem? tw_u76) (List.mem_of_getElem? tw_u77) (by show 1 ≤ (tw_zR z).frames; rw [eR]; exact Nat.le_of_ble_eq_true rfl) (by show 20 ≤ (tw_zR z).locals; rw [eR]; exact Nat.le_of_ble_eq_true rfl) (Nat.le_of_ble_eq_true rfl) ?_
  refine c_aload_n (z := tw_cz z 0 0) X dX3_init_4 rfl 0 rfl ?_
  refine k_new (ci := 7) (T := TX7) (N := 1) (fs := [.null]) (mm := 136) (c := 0) (s := 0) (c' := 1) (s' := 1) X dX3_init_5 _ tw_u313 tw_u96 tw_u39 tw_in7 tyX7 tyX7_ok rfl tw_df7 (by rw [eR]; exact Nat.le_of_ble_eq_true rfl) (by rw [eR]; exact Nat.le_of_ble_eq_true rfl) rfl rfl ?_
  refine c_dup (z := tw_cz z 1 1) X dX3_init_8 rfl ?_
  refine c_sipush (z := tw_cz z 1 1) X dX3_init_9 (v := (704 : Int32)) (by decide) ?_
  refine k_init (rm := { frames := 1, cells := 1, slots := 704, locals := 20 }) (c := 1) (s := 1) (c' := 2) (s' := 705) (m := 136) (m' := 138) (As := [.int 704]) X hAK hz (by omega) dX3_init_12 (tw_i_X7 (σ := σ) (N := 704) (by decide +kernel) (by decide +kernel) rfl (by decide) (fun q a b => h0 q (by omega) (by omega)) (va_up_self _ _ _)) tw_y_X7_init tw_u98 rfl _ tw_u314 rfl (by rw [eR]; exact Nat.le_of_ble_eq_true rfl) (by rw [eR]; exact Nat.le_of_ble_eq_true rfl) (by rw [eR]; exact Nat.le_of_ble_eq_true rfl) (by rw [eR]; exact Nat.le_of_ble_eq_true rfl) rfl rfl (Nat.le_of_ble_eq_true rfl) rfl (by omega) rfl ?_
  refine k_putF (ci := 3) (T := TX3) (f := 0) (fs' := [.ref (tw_zB z + 136), .null]) (ty := .object "TreasureWalk$Row") X hnm hz (by omega) dX3_init_15 _ tw_u315 tw_in3 tyX3 tyX3_ok nmX3 rfl (by decide) rfl rfl (by decide +kernel) rfl rfl (by omega) (Nat.le_of_ble_eq_true rfl) rfl ?_
  refine c_aload_n (z := tw_cz z 2 705) X dX3_init_18 rfl 0 rfl ?_
  refine k_new (ci := 7) (T := TX7) (N := 1) (fs := [.null]) (mm := 138) (c := 2) (s := 705) (c' := 3) (s' := 706) X dX3_init_19 _ tw_u313 tw_u96 tw_u39 tw_in7 tyX7 tyX7_ok rfl tw_df7 (by rw [eR]; exact Nat.le_of_ble_eq_true rfl) (by rw [eR]; exact Nat.le_of_ble_eq_true rfl) rfl rfl ?_
  refine c_dup (z := tw_cz z 3 706) X dX3_init_22 rfl ?_
  refine c_sipush (z := tw_cz z 3 706) X dX3_init_23 (v := (400 : Int32)) (by decide) ?_
  refine k_init (rm := { frames := 1, cells := 1, slots := 400, locals := 20 }) (c := 3) (s := 706) (c' := 4) (s' := 1106) (m := 138) (m' := 140) (As := [.int 400]) X hAK hz (by omega) dX3_init_26 (tw_i_X7 (σ := σ) (N := 400) (by decide +kernel) (by decide +kernel) rfl (by decide) (fun q a b => h0 q (by omega) (by omega)) (va_up_self _ _ _)) tw_y_X7_init tw_u98 rfl _ tw_u314 rfl (by rw [eR]; exact Nat.le_of_ble_eq_true rfl) (by rw [eR]; exact Nat.le_of_ble_eq_true rfl) (by rw [eR]; exact Nat.le_of_ble_eq_true rfl) (by rw [eR]; exact Nat.le_of_ble_eq_true rfl) rfl rfl (Nat.le_of_ble_eq_true rfl) rfl (by omega) rfl ?_
  refine k_putF (ci := 3) (T := TX3) (f := 1) (fs' := [.ref (tw_zB z + 136), .ref (tw_zB z + 138)]) (ty := .object "TreasureWalk$Row") X hnm hz (by omega) dX3_init_29 _ tw_u317 tw_in3 tyX3 tyX3_ok nmX3 rfl (by decide) rfl rfl (by decide +kernel) rfl rfl (by omega) (Nat.le_of_ble_eq_true rfl) rfl ?_
  exact k_ret (B := 0) dX3_init_32 hQ rfl rfl (tw_cw_end (by omega) (by rw [tw_E3 (by decide +kernel : tw_kd 135 = 3)]; simp [tw_fs3, h0 135 (by omega) (by omega)]))
set_option maxRecDepth 100000 in
set_option maxHeartbeats 4000000 in
theorem tw_i_X6 {l : Launch} {B : Nat} {D : tw_G} {C : Nat → ClassId} {S : Nat → Nat} {σ : tw_Sg} {F : Nat → va_E} (h0 : ∀ q, 400 ≤ q → q < 435 → σ q = fun _ => 0) (hF : F 400 = .inr (6, [.null, .int 0, .null, .int 0, .int 0, .int 0, .int 0, .int 0, .int 0, .int 0, .int 0])) : tw_MetC l B D C S yX6_init cX6_init 1 { frames := 4, cells := 34, slots := 920, locals := 81 } [.ref (B + 400)] F 401 (tw_fin (tw_E B C σ) F 400 435) 435 := by
  refine tw_metOfC (by decide +kernel) (Nat.le_of_ble_eq_true rfl) ?_
  intro z el eB eD eC eS eR ec es hz hAK hnm X hret hQ
  subst el eB eD eC eS
  have X : tw_X z cX6_init "TreasureWalk$Reader" 1 := X
  show tw_Rc z F 401 0 [(0, .ref (tw_zB z + 400))] []
  refine tw_Rc.z0 ec es ?_
  refine tw_Rc.cong ?_ (tw_cw_0 (G := tw_E (tw_zB z) (tw_zC z) σ) hF)
  refine c_aload_n (z := tw_cz z 0 0) X dX6_init_0 rfl 0 rfl ?_
  refine c_obj (z := tw_cz z 0 0) X dX6_init_1 _ tw_u363 (List.mem_of_getElem? tw_u76) (List.mem_of_getElem? tw_u77) (by show 1 ≤ (tw_zR z).frames; rw [eR]; exact Nat.le_of_ble_eq_true rfl) (by show 20 ≤ (tw_zR z).locals; rw [eR]; exact Nat.le_of_ble_eq_true rfl) (Nat.le_of_ble_eq_true rfl) ?_
  refine c_aload_n (z := tw_cz z 0 0) X dX6_init_4 rfl 0 rfl ?_
  refine k_new (ci := 7) (T := TX7) (N := 1) (fs := [.null]) (mm := 401) (c := 0) (s := 0) (c' := 1) (s' := 1) X dX6_init_5 _ tw_u364 tw_u96 tw_u39 tw_in7 tyX7 tyX7_ok rfl tw_df7 (by rw [eR]; exact Nat.le_of_ble_eq_true rfl) (by rw [eR]; exact Nat.le_of_ble_eq_true rfl) rfl rfl ?_
  refine c_dup (z := tw_cz z 1 1) X dX6_init_8 rfl ?_
  refine c_sipush (z := tw_cz z 1 1) X dX6_init_9 (v := (600 : Int32)) (by decide) ?_
  refine k_init (rm := { frames := 1, cells := 1, slots := 600, locals := 20 }) (c := 1) (s := 1) (c' := 2) (s' := 601) (m := 401) (m' := 403) (As := [.int 600]) X hAK hz (by omega) dX6_init_12 (tw_i_X7 (σ := σ) (N := 600) (by decide +kernel) (by decide +kernel) rfl (by decide) (fun q a b => h0 q (by omega) (by omega)) (va_up_self _ _ _)) tw_y_X7_init tw_u98 rfl _ tw_u365 rfl (by rw [eR]; exact Nat.le_of_ble_eq_true rfl) (by rw [eR]; exact Nat.le_of_ble_eq_true rfl) (by rw [eR]; exact Nat.le_of_ble_eq_true rfl) (by rw [eR]; exact Nat.le_of_ble_eq_true rfl) rfl rfl (Nat.le_of_ble_eq_true rfl) rfl (by omega) rfl ?_
  refine k_putF (ci := 6) (T := TX6) (f := 0) (fs' := [.ref (tw_zB z + 401), .int 0, .null, .int 0, .int 0, .int 0, .int 0, .int 0, .int 0, .int 0, .int 0]) (ty := .object "TreasureWalk$Row") X hnm hz (by omega) dX6_init_15 _ tw_u368 tw_in6 tyX6 tyX6_ok nmX6 rfl (by decide) rfl rfl (by decide +kernel) rfl rfl (by omega) (Nat.le_of_ble_eq_true rfl) rfl ?_
  refine c_aload_n (z := tw_cz z 2 601) X dX6_init_18 rfl 0 rfl ?_
  refine k_new (ci := 2) (T := TX2) (N := 14) (fs := [.int 0, .int 0, .null, .null, .null, .int 0, .null, .null, .null, .null, .int 0, .int 0, .int 0, .int 0]) (mm := 403) (c := 2) (s := 601) (c' := 3) (s' := 615) X dX6_init_19 _ tw_u366 tw_u79 tw_u37 tw_in2 tyX2 tyX2_ok rfl tw_df2 (by rw [eR]; exact Nat.le_of_ble_eq_true rfl) (by rw [eR]; exact Nat.le_of_ble_eq_true rfl) rfl rfl ?_
  refine c_dup (z := tw_cz z 3 615) X dX6_init_22 rfl ?_
  refine k_initN (rm := { frames := 3, cells := 31, slots := 305, locals := 61 }) (c := 3) (s := 615) (c' := 34) (s' := 920) (m := 403) (m' := 435) (As := []) X hAK hz (by omega) dX6_init_23 (tw_i_X2 (σ := σ) (by decide +kernel) (fun q a b => h0 q (by omega) (by omega)) (va_up_self _ _ _)) tw_y_X2_init tw_u81 rfl _ tw_u367 rfl (by rw [eR]; exact Nat.le_of_ble_eq_true rfl) (by rw [eR]; exact Nat.le_of_ble_eq_true rfl) (by rw [eR]; exact Nat.le_of_ble_eq_true rfl) (by rw [eR]; exact Nat.le_of_ble_eq_true rfl) rfl rfl (Nat.le_of_ble_eq_true rfl) rfl (by omega) rfl ?_
  refine k_putF (ci := 6) (T := TX6) (f := 2) (fs' := [.ref (tw_zB z + 401), .int 0, .ref (tw_zB z + 403), .int 0, .int 0, .int 0, .int 0, .int 0, .int 0, .int 0, .int 0]) (ty := .object "TreasureWalk$Data") X hnm hz (by omega) dX6_init_26 _ tw_u371 tw_in6 tyX6 tyX6_ok nmX6 rfl (by decide) rfl rfl (by decide +kernel) rfl rfl (by omega) (Nat.le_of_ble_eq_true rfl) rfl ?_
  exact k_ret (B := 0) dX6_init_29 hQ rfl rfl (tw_cw_end (by omega) (by rw [tw_E6 (by decide +kernel : tw_kd 400 = 6)]; simp [tw_fs6, h0 400 (by omega) (by omega)]))
set_option maxRecDepth 100000 in
set_option maxHeartbeats 4000000 in
theorem tw_i_X8 {l : Launch} {B : Nat} {D : tw_G} {C : Nat → ClassId} {S : Nat → Nat} {σ : tw_Sg} {F : Nat → va_E} (h0 : ∀ q, 134 ≤ q → q < 142 → σ q = fun _ => 0) (hF : F 134 = .inr (8, [.null, .null, .null, .null])) : tw_MetC l B D C S yX8_init cX8_init 3 { frames := 3, cells := 7, slots := 1131, locals := 61 } [.ref (B + 134), .ref (B + 1), .ref (B + 33)] F 135 (tw_fin (tw_E B C σ) F 134 142) 142 := by
  refine tw_metOfC (by decide +kernel) (Nat.le_of_ble_eq_true rfl) ?_
  intro z el eB eD eC eS eR ec es hz hAK hnm X hret hQ
  subst el eB eD eC eS
  have X : tw_X z cX8_init "TreasureWalk$Survey" 3 := X
  show tw_Rc z F 135 0 [(0, .ref (tw_zB z + 134)), (1, .ref (tw_zB z + 1)), (2, .ref (tw_zB z + 33))] []
  refine tw_Rc.z0 ec es ?_
  refine tw_Rc.cong ?_ (tw_cw_0 (G := tw_E (tw_zB z) (tw_zC z) σ) hF)
  refine c_aload_n (z := tw_cz z 0 0) X dX8_init_0 rfl 0 rfl ?_
  refine c_obj (z := tw_cz z 0 0) X dX8_init_1 _ tw_u306 (List.mem_of_getElem? tw_u76) (List.mem_of_getElem? tw_u77) (by show 1 ≤ (tw_zR z).frames; rw [eR]; exact Nat.le_of_ble_eq_true rfl) (by show 20 ≤ (tw_zR z).locals; rw [eR]; exact Nat.le_of_ble_eq_true rfl) (Nat.le_of_ble_eq_true rfl) ?_
  refine c_aload_n (z := tw_cz z 0 0) X dX8_init_4 rfl 0 rfl ?_
  refine k_new (ci := 3) (T := TX3) (N := 2) (fs := [.null, .null]) (mm := 135) (c := 0) (s := 0) (c' := 1) (s' := 2) X dX8_init_5 _ tw_u307 tw_u308 tw_u45 tw_in3 tyX3 tyX3_ok rfl tw_df3 (by rw [eR]; exact Nat.le_of_ble_eq_true rfl) (by rw [eR]; exact Nat.le_of_ble_eq_true rfl) rfl rfl ?_
  refine c_dup (z := tw_cz z 1 2) X dX8_init_8 rfl ?_
  refine k_initN (rm := { frames := 2, cells := 4, slots := 1106, locals := 41 }) (c := 1) (s := 2) (c' := 5) (s' := 1108) (m := 135) (m' := 140) (As := []) X hAK hz (by omega) dX8_init_9 (tw_i_X3 (σ := σ) (fun q a b => h0 q (by omega) (by omega)) (va_up_self _ _ _)) tw_y_X3_init tw_u310 rfl _ tw_u309 rfl (by rw [eR]; exact Nat.le_of_ble_eq_true rfl) (by rw [eR]; exact Nat.le_of_ble_eq_true rfl) (by rw [eR]; exact Nat.le_of_ble_eq_true rfl) (by rw [eR]; exact Nat.le_of_ble_eq_true rfl) rfl rfl (Nat.le_of_ble_eq_true rfl) rfl (by omega) rfl ?_
  refine k_putF (ci := 8) (T := TX8) (f := 2) (fs' := [.null, .null, .ref (tw_zB z + 135), .null]) (ty := .object "TreasureWalk$Flood") X hnm hz (by omega) dX8_init_12 _ tw_u327 tw_in8 tyX8 tyX8_ok nmX8 rfl (by decide) rfl rfl (by decide +kernel) rfl rfl (by omega) (Nat.le_of_ble_eq_true rfl) rfl ?_
  refine c_aload_n (z := tw_cz z 5 1108) X dX8_init_15 rfl 0 rfl ?_
  refine k_new (ci := 0) (T := TX0) (N := 1) (fs := [.null]) (mm := 140) (c := 5) (s := 1108) (c' := 6) (s' := 1109) X dX8_init_16 _ tw_u323 tw_u85 tw_u38 tw_in0 tyX0 tyX0_ok rfl tw_df0 (by rw [eR]; exact Nat.le_of_ble_eq_true rfl) (by rw [eR]; exact Nat.le_of_ble_eq_true rfl) rfl rfl ?_
  refine c_dup (z := tw_cz z 6 1109) X dX8_init_19 rfl ?_
  refine k_initN (rm := { frames := 1, cells := 1, slots := 22, locals := 20 }) (c := 6) (s := 1109) (c' := 7) (s' := 1131) (m := 140) (m' := 142) (As := []) X hAK hz (by omega) dX8_init_20 (tw_i_X0 (σ := σ) (by decide +kernel) (fun q a b => h0 q (by omega) (by omega)) (va_up_self _ _ _)) tw_y_X0_init tw_u87 rfl _ tw_u324 rfl (by rw [eR]; exact Nat.le_of_ble_eq_true rfl) (by rw [eR]; exact Nat.le_of_ble_eq_true rfl) (by rw [eR]; exact Nat.le_of_ble_eq_true rfl) (by rw [eR]; exact Nat.le_of_ble_eq_true rfl) rfl rfl (Nat.le_of_ble_eq_true rfl) rfl (by omega) rfl ?_
  refine k_putF (ci := 8) (T := TX8) (f := 3) (fs' := [.null, .null, .ref (tw_zB z + 135), .ref (tw_zB z + 140)]) (ty := .object "TreasureWalk$Cells") X hnm hz (by omega) dX8_init_23 _ tw_u328 tw_in8 tyX8 tyX8_ok nmX8 rfl (by decide) rfl rfl (by decide +kernel) rfl rfl (by omega) (Nat.le_of_ble_eq_true rfl) rfl ?_
  refine c_aload_n (z := tw_cz z 7 1131) X dX8_init_26 rfl 0 rfl ?_
  refine c_aload_n (z := tw_cz z 7 1131) X dX8_init_27 rfl 1 rfl ?_
  refine k_putF (ci := 8) (T := TX8) (f := 0) (fs' := [.ref (tw_zB z + 1), .null, .ref (tw_zB z + 135), .ref (tw_zB z + 140)]) (ty := .object "TreasureWalk$Data") X hnm hz (by omega) dX8_init_28 _ tw_u325 tw_in8 tyX8 tyX8_ok nmX8 rfl (by decide) rfl rfl (by decide +kernel) rfl rfl (by omega) (Nat.le_of_ble_eq_true rfl) rfl ?_
  refine c_aload_n (z := tw_cz z 7 1131) X dX8_init_31 rfl 0 rfl ?_
  refine c_aload_n (z := tw_cz z 7 1131) X dX8_init_32 rfl 2 rfl ?_
  refine k_putF (ci := 8) (T := TX8) (f := 1) (fs' := [.ref (tw_zB z + 1), .ref (tw_zB z + 33), .ref (tw_zB z + 135), .ref (tw_zB z + 140)]) (ty := .object "TreasureWalk$Trails") X hnm hz (by omega) dX8_init_33 _ tw_u326 tw_in8 tyX8 tyX8_ok nmX8 rfl (by decide) rfl rfl (by decide +kernel) rfl rfl (by omega) (Nat.le_of_ble_eq_true rfl) rfl ?_
  exact k_ret (B := 0) dX8_init_36 hQ rfl rfl (tw_cw_end (by omega) (by rw [tw_E8 (by decide +kernel : tw_kd 134 = 8)]; simp [tw_fs8, h0 134 (by omega) (by omega)]))
set_option maxRecDepth 100000 in
set_option maxHeartbeats 4000000 in
theorem tw_i_X9 {l : Launch} {B : Nat} {D : tw_G} {C : Nat → ClassId} {S : Nat → Nat} {σ : tw_Sg} {F : Nat → va_E} (h0 : ∀ q, 435 ≤ q → q < 442 → σ q = fun _ => 0) (hF : F 435 = .inr (9, [.null, .null, .int 0, .null, .null, .null])) : tw_MetC l B D C S yX9_init cX9_init 3 { frames := 2, cells := 6, slots := 4710, locals := 41 } [.ref (B + 435), .ref (B + 1), .ref (B + 134)] F 436 (tw_fin (tw_E B C σ) F 435 442) 442 := by
  refine tw_metOfC (by decide +kernel) (Nat.le_of_ble_eq_true rfl) ?_
  intro z el eB eD eC eS eR ec es hz hAK hnm X hret hQ
  subst el eB eD eC eS
  have X : tw_X z cX9_init "TreasureWalk$Tours" 3 := X
  show tw_Rc z F 436 0 [(0, .ref (tw_zB z + 435)), (1, .ref (tw_zB z + 1)), (2, .ref (tw_zB z + 134))] []
  refine tw_Rc.z0 ec es ?_
  refine tw_Rc.cong ?_ (tw_cw_0 (G := tw_E (tw_zB z) (tw_zC z) σ) hF)
  refine c_aload_n (z := tw_cz z 0 0) X dX9_init_0 rfl 0 rfl ?_
  refine c_obj (z := tw_cz z 0 0) X dX9_init_1 _ tw_u410 (List.mem_of_getElem? tw_u76) (List.mem_of_getElem? tw_u77) (by show 1 ≤ (tw_zR z).frames; rw [eR]; exact Nat.le_of_ble_eq_true rfl) (by show 20 ≤ (tw_zR z).locals; rw [eR]; exact Nat.le_of_ble_eq_true rfl) (Nat.le_of_ble_eq_true rfl) ?_
  refine c_aload_n (z := tw_cz z 0 0) X dX9_init_4 rfl 0 rfl ?_
  refine k_new (ci := 7) (T := TX7) (N := 1) (fs := [.null]) (mm := 436) (c := 0) (s := 0) (c' := 1) (s' := 1) X dX9_init_5 _ tw_u411 tw_u96 tw_u39 tw_in7 tyX7 tyX7_ok rfl tw_df7 (by rw [eR]; exact Nat.le_of_ble_eq_true rfl) (by rw [eR]; exact Nat.le_of_ble_eq_true rfl) rfl rfl ?_
  refine c_dup (z := tw_cz z 1 1) X dX9_init_8 rfl ?_
  refine c_bipush (z := tw_cz z 1 1) X dX9_init_9 (v := (9 : Int32)) (by decide) ?_
  refine k_init (rm := { frames := 1, cells := 1, slots := 9, locals := 20 }) (c := 1) (s := 1) (c' := 2) (s' := 10) (m := 436) (m' := 438) (As := [.int 9]) X hAK hz (by omega) dX9_init_11 (tw_i_X7 (σ := σ) (N := 9) (by decide +kernel) (by decide +kernel) rfl (by decide) (fun q a b => h0 q (by omega) (by omega)) (va_up_self _ _ _)) tw_y_X7_init tw_u98 rfl _ tw_u412 rfl (by rw [eR]; exact Nat.le_of_ble_eq_true rfl) (by rw [eR]; exact Nat.le_of_ble_eq_true rfl) (by rw [eR]; exact Nat.le_of_ble_eq_true rfl) (by rw [eR]; exact Nat.le_of_ble_eq_true rfl) rfl rfl (Nat.le_of_ble_eq_true rfl) rfl (by omega) rfl ?_
  refine k_putF (ci := 9) (T := TX9) (f := 3) (fs' := [.null, .null, .int 0, .ref (tw_zB z + 436), .null, .null]) (ty := .object "TreasureWalk$Row") X hnm hz (by omega) dX9_init_14 _ tw_u415 tw_in9 tyX9 tyX9_ok nmX9 rfl (by decide) rfl rfl (by decide +kernel) rfl rfl (by omega) (Nat.le_of_ble_eq_true rfl) rfl ?_
  refine c_aload_n (z := tw_cz z 2 10) X dX9_init_17 rfl 0 rfl ?_
  refine k_new (ci := 7) (T := TX7) (N := 1) (fs := [.null]) (mm := 438) (c := 2) (s := 10) (c' := 3) (s' := 11) X dX9_init_18 _ tw_u411 tw_u96 tw_u39 tw_in7 tyX7 tyX7_ok rfl tw_df7 (by rw [eR]; exact Nat.le_of_ble_eq_true rfl) (by rw [eR]; exact Nat.le_of_ble_eq_true rfl) rfl rfl ?_
  refine c_dup (z := tw_cz z 3 11) X dX9_init_21 rfl ?_
  refine c_bipush (z := tw_cz z 3 11) X dX9_init_22 (v := (90 : Int32)) (by decide) ?_
  refine k_init (rm := { frames := 1, cells := 1, slots := 90, locals := 20 }) (c := 3) (s := 11) (c' := 4) (s' := 101) (m := 438) (m' := 440) (As := [.int 90]) X hAK hz (by omega) dX9_init_24 (tw_i_X7 (σ := σ) (N := 90) (by decide +kernel) (by decide +kernel) rfl (by decide) (fun q a b => h0 q (by omega) (by omega)) (va_up_self _ _ _)) tw_y_X7_init tw_u98 rfl _ tw_u412 rfl (by rw [eR]; exact Nat.le_of_ble_eq_true rfl) (by rw [eR]; exact Nat.le_of_ble_eq_true rfl) (by rw [eR]; exact Nat.le_of_ble_eq_true rfl) (by rw [eR]; exact Nat.le_of_ble_eq_true rfl) rfl rfl (Nat.le_of_ble_eq_true rfl) rfl (by omega) rfl ?_
  refine k_putF (ci := 9) (T := TX9) (f := 4) (fs' := [.null, .null, .int 0, .ref (tw_zB z + 436), .ref (tw_zB z + 438), .null]) (ty := .object "TreasureWalk$Row") X hnm hz (by omega) dX9_init_27 _ tw_u416 tw_in9 tyX9 tyX9_ok nmX9 rfl (by decide) rfl rfl (by decide +kernel) rfl rfl (by omega) (Nat.le_of_ble_eq_true rfl) rfl ?_
  refine c_aload_n (z := tw_cz z 4 101) X dX9_init_30 rfl 0 rfl ?_
  refine k_new (ci := 7) (T := TX7) (N := 1) (fs := [.null]) (mm := 440) (c := 4) (s := 101) (c' := 5) (s' := 102) X dX9_init_31 _ tw_u411 tw_u96 tw_u39 tw_in7 tyX7 tyX7_ok rfl tw_df7 (by rw [eR]; exact Nat.le_of_ble_eq_true rfl) (by rw [eR]; exact Nat.le_of_ble_eq_true rfl) rfl rfl ?_
  refine c_dup (z := tw_cz z 5 102) X dX9_init_34 rfl ?_
  refine c_sipush (z := tw_cz z 5 102) X dX9_init_35 (v := (4608 : Int32)) (by decide) ?_
  refine k_init (rm := { frames := 1, cells := 1, slots := 4608, locals := 20 }) (c := 5) (s := 102) (c' := 6) (s' := 4710) (m := 440) (m' := 442) (As := [.int 4608]) X hAK hz (by omega) dX9_init_38 (tw_i_X7 (σ := σ) (N := 4608) (by decide +kernel) (by decide +kernel) rfl (by decide) (fun q a b => h0 q (by omega) (by omega)) (va_up_self _ _ _)) tw_y_X7_init tw_u98 rfl _ tw_u412 rfl (by rw [eR]; exact Nat.le_of_ble_eq_true rfl) (by rw [eR]; exact Nat.le_of_ble_eq_true rfl) (by rw [eR]; exact Nat.le_of_ble_eq_true rfl) (by rw [eR]; exact Nat.le_of_ble_eq_true rfl) rfl rfl (Nat.le_of_ble_eq_true rfl) rfl (by omega) rfl ?_
  refine k_putF (ci := 9) (T := TX9) (f := 5) (fs' := [.null, .null, .int 0, .ref (tw_zB z + 436), .ref (tw_zB z + 438), .ref (tw_zB z + 440)]) (ty := .object "TreasureWalk$Row") X hnm hz (by omega) dX9_init_41 _ tw_u417 tw_in9 tyX9 tyX9_ok nmX9 rfl (by decide) rfl rfl (by decide +kernel) rfl rfl (by omega) (Nat.le_of_ble_eq_true rfl) rfl ?_
  refine c_aload_n (z := tw_cz z 6 4710) X dX9_init_44 rfl 0 rfl ?_
  refine c_aload_n (z := tw_cz z 6 4710) X dX9_init_45 rfl 1 rfl ?_
  refine k_putF (ci := 9) (T := TX9) (f := 0) (fs' := [.ref (tw_zB z + 1), .null, .int 0, .ref (tw_zB z + 436), .ref (tw_zB z + 438), .ref (tw_zB z + 440)]) (ty := .object "TreasureWalk$Data") X hnm hz (by omega) dX9_init_46 _ tw_u413 tw_in9 tyX9 tyX9_ok nmX9 rfl (by decide) rfl rfl (by decide +kernel) rfl rfl (by omega) (Nat.le_of_ble_eq_true rfl) rfl ?_
  refine c_aload_n (z := tw_cz z 6 4710) X dX9_init_49 rfl 0 rfl ?_
  refine c_aload_n (z := tw_cz z 6 4710) X dX9_init_50 rfl 2 rfl ?_
  refine k_putF (ci := 9) (T := TX9) (f := 1) (fs' := [.ref (tw_zB z + 1), .ref (tw_zB z + 134), .int 0, .ref (tw_zB z + 436), .ref (tw_zB z + 438), .ref (tw_zB z + 440)]) (ty := .object "TreasureWalk$Survey") X hnm hz (by omega) dX9_init_51 _ tw_u414 tw_in9 tyX9 tyX9_ok nmX9 rfl (by decide) rfl rfl (by decide +kernel) rfl rfl (by omega) (Nat.le_of_ble_eq_true rfl) rfl ?_
  exact k_ret (B := 0) dX9_init_54 hQ rfl rfl (tw_cw_end (by omega) (by rw [tw_E9 (by decide +kernel : tw_kd 435 = 9)]; simp [tw_fs9, h0 435 (by omega) (by omega)]))
