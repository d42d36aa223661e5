theorem tw_u1242 : lw_tbl[1242]? = some ((Jvm.Cond.methodLink "TreasureWalkModel" (3 : Nat) ({ cls := "java/lang/Object", name := "<init>", desc := "()V" } : Jvm.MethodName))) := by decide +kernel
theorem tw_u1243 : lw_tbl[1243]? = some ((Jvm.Cond.classLink "TreasureWalkModel" (23 : Nat) "[[I")) := by decide +kernel
theorem tw_u1245 : lw_tbl[1245]? = some ((Jvm.Cond.classLink "TreasureWalkModel" (34 : Nat) "[[[Z")) := by decide +kernel
theorem tw_u1248 : lw_tbl[1248]? = some ((Jvm.Cond.classLink "TreasureWalkModel" (39 : Nat) "[[Z")) := by decide +kernel
theorem tw_u1249 : lw_tbl[1249]? = some ((Jvm.Cond.methodLink "TreasureWalkModel" (65 : Nat) ({ cls := "TreasureWalkModel", name := "layMap", desc := "([III)V" } : Jvm.MethodName))) := by decide +kernel
theorem tw_u1253 : lw_tbl[1253]? = some ((Jvm.Cond.fieldLink "TreasureWalkModel" (9 : Nat) "TreasureWalkModel" "buffer" "[I")) := by decide +kernel
theorem tw_u1259 : lw_tbl[1259]? = some ((Jvm.Cond.fieldLink "TreasureWalkModel" (13 : Nat) "TreasureWalkModel" "errorOffset" "I")) := by decide +kernel
theorem tw_u1260 : lw_tbl[1260]? = some ((Jvm.Cond.fieldLink "TreasureWalkModel" (17 : Nat) "TreasureWalkModel" "data" "[I")) := by decide +kernel
theorem tw_u1261 : lw_tbl[1261]? = some ((Jvm.Cond.fieldLink "TreasureWalkModel" (20 : Nat) "TreasureWalkModel" "draft" "[I")) := by decide +kernel
theorem tw_u1262 : lw_tbl[1262]? = some ((Jvm.Cond.fieldLink "TreasureWalkModel" (25 : Nat) "TreasureWalkModel" "history" "[[I")) := by decide +kernel
theorem tw_u1271 : lw_tbl[1271]? = some ((Jvm.Cond.fieldLink "TreasureWalkModel" (28 : Nat) "TreasureWalkModel" "endCell" "[I")) := by decide +kernel
theorem tw_u1272 : lw_tbl[1272]? = some ((Jvm.Cond.fieldLink "TreasureWalkModel" (31 : Nat) "TreasureWalkModel" "endPaces" "[I")) := by decide +kernel
theorem tw_u1273 : lw_tbl[1273]? = some ((Jvm.Cond.fieldLink "TreasureWalkModel" (36 : Nat) "TreasureWalkModel" "ends" "[[[Z")) := by decide +kernel
theorem tw_u1275 : lw_tbl[1275]? = some ((Jvm.Cond.fieldLink "TreasureWalkModel" (41 : Nat) "TreasureWalkModel" "leads" "[[Z")) := by decide +kernel
theorem tw_u1276 : lw_tbl[1276]? = some ((Jvm.Cond.fieldLink "TreasureWalkModel" (44 : Nat) "TreasureWalkModel" "far" "[I")) := by decide +kernel
theorem tw_u1277 : lw_tbl[1277]? = some ((Jvm.Cond.fieldLink "TreasureWalkModel" (47 : Nat) "TreasureWalkModel" "row" "[I")) := by decide +kernel
theorem tw_u1278 : lw_tbl[1278]? = some ((Jvm.Cond.fieldLink "TreasureWalkModel" (50 : Nat) "TreasureWalkModel" "partOf" "[I")) := by decide +kernel
theorem tw_u1279 : lw_tbl[1279]? = some ((Jvm.Cond.fieldLink "TreasureWalkModel" (53 : Nat) "TreasureWalkModel" "goal" "[I")) := by decide +kernel
theorem tw_u1280 : lw_tbl[1280]? = some ((Jvm.Cond.fieldLink "TreasureWalkModel" (56 : Nat) "TreasureWalkModel" "first" "[I")) := by decide +kernel
theorem tw_u1281 : lw_tbl[1281]? = some ((Jvm.Cond.fieldLink "TreasureWalkModel" (59 : Nat) "TreasureWalkModel" "between" "[[I")) := by decide +kernel
theorem tw_u1282 : lw_tbl[1282]? = some ((Jvm.Cond.fieldLink "TreasureWalkModel" (62 : Nat) "TreasureWalkModel" "least" "[[I")) := by decide +kernel
/-! TreasureWalkModel's constructor -/
theorem tw_cwold {G F : Nat → va_E} {k m m' q : Nat} {e : va_E} (hq : q < m) (hm : m ≤ m') : tw_cw G F k e m' q = tw_cw G F k e m q := by
  unfold tw_cw
  by_cases h1 : q = k
  · rw [if_pos h1, if_pos h1]
  · rw [if_neg h1, if_neg h1]
    by_cases h2 : k < q
    · rw [if_pos ⟨h2, by omega⟩, if_pos ⟨h2, hq⟩]
    · rw [if_neg (by omega), if_neg (by omega)]
theorem tw_hcf1 {G : Nat → va_E} {m K : Nat} {ci : ClassId} (h : G m = .inl (ci, K, .inl (fun _ => 0))) : ∀ r, r < 1 → ∃ a, G (m + r) = .inl a ∧ vp_cell a.1 a.2 = tw_ar ci K (.int 0) := by
  intro r hr
  have : r = 0 := by omega
  subst this
  exact ⟨_, h, (arrV_new ci K (.int 0)).symm⟩
theorem tw_hcfM {G : Nat → va_E} {B m N sz : Nat} {ct : ClassId} {cf : Nat → Nat → Cell} (hs : 0 < sz) (htop : G m = .inl (ct, N, .inr (.inr (.inr (.inr (fun j => some (B + (m + 1 + sz * j)))))))) (hmid : ∀ i r, i < N → r < sz → ∃ a, G (m + 1 + i * sz + r) = .inl a ∧ vp_cell a.1 a.2 = cf (B + (m + 1 + i * sz)) r) : ∀ j, j < 1 + N * sz → ∃ a, G (m + j) = .inl a ∧ vp_cell a.1 a.2 = tw_cfm ct N sz cf (B + m) j := by
  intro j hj
  unfold tw_cfm
  by_cases h : j = 0
  · subst h
    rw [if_pos rfl]
    refine ⟨_, htop, ?_⟩
    show arrV ct N (fun j => va_rf (some (B + (m + 1 + sz * j)))) = _
    congr 1
    funext j
    show Value.ref (B + (m + 1 + sz * j)) = Value.ref (B + m + 1 + j * sz)
    rw [Nat.mul_comm sz j, show B + (m + 1 + j * sz) = B + m + 1 + j * sz from by omega]
  · rw [if_neg h]
    have hm : (j - 1) % sz < sz := Nat.mod_lt _ hs
    have hd : (j - 1) / sz * sz + (j - 1) % sz = j - 1 := by rw [Nat.mul_comm]; exact Nat.div_add_mod _ _
    have hq : (j - 1) / sz < N := by rw [Nat.div_lt_iff_lt_mul hs]; omega
    obtain ⟨a, e1, e2⟩ := hmid _ _ hq hm
    rw [show m + 1 + (j - 1) / sz * sz + (j - 1) % sz = m + j from by omega] at e1
    rw [show B + (m + 1 + (j - 1) / sz * sz) = B + m + 1 + (j - 1) / sz * sz from by omega] at e2
    exact ⟨a, e1, e2⟩
theorem tw_kind {C : Nat → ClassId} {U : State} {V : Vm} {t : FieldType} {a b : Nat} (hal : U.vm.Alike V) (h : tw_AOA t U) (ha : U.vm.findClass ("[" ++ (FieldType.array t).toString) = some (C a)) (hb : U.vm.findClass (FieldType.array t).toString = some (C b)) : ∃ k, V.classes[C a]? = some k ∧ k.kind = .array (C b) (.array t) := by
  obtain ⟨comp, c, k, h1, h2, h3, h4⟩ := h
  cases Option.some.inj (h4.symm.trans ha)
  cases Option.some.inj (h1.symm.trans hb)
  obtain ⟨k', hk', he⟩ := hal.2.2 _ _ h2
  exact ⟨k', hk', by rw [he]; exact h3⟩
theorem tw_kind1 {U : State} {V : Vm} {t : FieldType} {c : ClassId} (hal : U.vm.Alike V) (h : ArrOfT U c t) : ∃ k cc, V.classes[c]? = some k ∧ k.kind = .array cc t := by
  obtain ⟨-, k, h2, comp, h3⟩ := h 0 (fun _ => .null)
  obtain ⟨k', hk', he⟩ := hal.2.2 _ _ h2
  exact ⟨k', comp, hk', by rw [he]; exact h3⟩
theorem tw_hmz1 {V : Vm} {e : Env} {l : Launch} {c : ClassId} {t : FieldType} (hA : l.admits e) (hk : ∃ k cc, V.classes[c]? = some k ∧ k.kind = .array cc t) (hdf : fits t (defaultValue t) = true) (hdd : (defaultValue t).isDefault = true) (hcb : componentBytes t ≤ 4) (n : Int32) (N : Nat) (hn : ¬ n < 0) (hN : n.toNatClampNeg = N ∧ N ≤ 10000) : tw_Mz V e (tw_f1 c N (defaultValue t)) c [n] 1 N := by
  obtain ⟨hN, hb⟩ := hN
  subst hN
  obtain ⟨k, cc, h1, h2⟩ := hk
  have hm : n.toNatClampNeg * componentBytes t ≤ n.toNatClampNeg * 4 := Nat.mul_le_mul_left _ hcb
  exact tw_Mz1 h1 h2 hn (by rw [Launch.admits_arrayLengthLimit hA]; omega) (by rw [Launch.admits_maxHeapBytes hA]; omega) hdf hdd
theorem tw_hmzM {V : Vm} {e : Env} {l : Launch} {c c1 : ClassId} {t0 : FieldType} {f : State → State} {sz sl : Nat} {cf : Nat → Nat → Cell} {r0 : Int32} {rs : List Int32} (hA : l.admits e) (G : tw_Gr f sz sl cf) (hf : tw_Mz V e f c1 (r0 :: rs) sz sl) (hk : ∃ k, V.classes[c]? = some k ∧ k.kind = .array c1 t0) (href : t0.isReference = true) (hcb : componentBytes t0 ≤ 4) (hfind : ((r0 :: rs).find? (· < 0)) = none) (n : Int32) (N : Nat) (hn : ¬ n < 0) (hN : n.toNatClampNeg = N ∧ N ≤ 10000) : tw_Mz V e (fun s => tw_mk f sz c N s N) c (n :: r0 :: rs) (1 + N * sz) (N + N * sl) := by
  obtain ⟨hN, hb⟩ := hN
  subst hN
  obtain ⟨k, h1, h2⟩ := hk
  have hm : n.toNatClampNeg * componentBytes t0 ≤ n.toNatClampNeg * 4 := Nat.mul_le_mul_left _ hcb
  exact tw_MzM G hf h1 h2 href hn (by rw [Launch.admits_arrayLengthLimit hA]; omega) (by rw [Launch.admits_maxHeapBytes hA]; omega) hfind
theorem tw_ty {B : Nat} {C : Nat → ClassId} {σ : tw_Sg} {q : Nat} (hq : q < 1036) : ty_E B C σ q = tw_E B C σ q := by
  have h : ty_kd q = tw_kd q := by
    unfold ty_kd
    rw [show Nat.blt q 1036 = true from Nat.ble_eq_true_of_le hq]
    rfl
  unfold ty_E tw_E
  rw [h]
  rfl
section TWTY
variable {z : tw_Z} {pc : Nat} {L : List (Nat × Value)} {st : List Value} {σ : tw_Sg} {F : Nat → va_E} {c s : Nat}
theorem c_toY (hF : ∀ q, q < 1036 → F q = tw_E (tw_zB z) (tw_zC z) σ q) (h : ty_Rf (tw_cz z c s) () (some ()) σ pc L st) : tw_Rc (tw_cz z c s) F 1036 pc L st := fun H locs ls hP hz hS hl => h rfl H locs ls (tw_Pcong hP (fun q hq => (hF q hq).trans (tw_ty hq).symm)) hS hl
theorem c_ofY (hsz : (tw_zs z).heap.size + c = tw_zB z + 1036) (h : tw_Rc (tw_cz z c s) (tw_E (tw_zB z) (tw_zC z) σ) 1036 pc L st) : ty_Rf (tw_cz z c s) () (some ()) σ pc L st := fun _ H locs ls hP hS hl => tw_size (z := tw_cz z c s) (by decide) hsz hP (fun hz => h H locs ls (tw_Pcong hP (fun q hq => tw_ty hq)) hz hS hl)
end TWTY
theorem hcf_446_9 {B : Nat} {C : Nat → ClassId} {σ : tw_Sg} (h0 : ∀ q, 443 ≤ q → q < 1036 → σ q = fun _ => 0) : ∀ j, j < 9 → ∃ a, tw_E B C σ (446 + j) = .inl a ∧ vp_cell a.1 a.2 = tw_cfm (C 4) 8 1 (fun _ _ => tw_ar (C 0) 1028 (defaultValue .int)) (B + 446) j := by
  refine tw_hcfM (G := tw_E B C σ) (B := B) (m := 446) (N := 8) (sz := 1) (ct := C 4) (cf := fun _ _ => tw_ar (C 0) 1028 (defaultValue .int)) (by decide) ((tw_E17 (by decide +kernel)).trans (by rw [show tw_ln 446 = 8 from by decide +kernel])) (fun i r hi hr => tw_hcf1 (m := 446 + 1 + i * 1) ?_ r hr)
  have e1 : tw_kd (446 + 1 + i * 1) = 13 := eq_of_beq (tw_rng (n := 8) (p := fun i => tw_kd (446 + 1 + i * 1) == 13) (by decide +kernel) i hi)
  have e2 : tw_ln (446 + 1 + i * 1) = 1028 := eq_of_beq (tw_rng (n := 8) (p := fun i => tw_ln (446 + 1 + i * 1) == 1028) (by decide +kernel) i hi)
  rw [tw_E13 e1, e2, h0 _ (by omega) (by omega)]
theorem hcf_457_41 {B : Nat} {C : Nat → ClassId} {σ : tw_Sg} (h0 : ∀ q, 443 ≤ q → q < 1036 → σ q = fun _ => 0) : ∀ j, j < 41 → ∃ a, tw_E B C σ (457 + j) = .inl a ∧ vp_cell a.1 a.2 = tw_cfm (C 6) 4 10 (tw_cfm (C 5) 9 1 (fun _ _ => tw_ar (C 1) 400 (defaultValue .boolean))) (B + 457) j := by
  refine tw_hcfM (G := tw_E B C σ) (B := B) (m := 457) (N := 4) (sz := 10) (ct := C 6) (cf := tw_cfm (C 5) 9 1 (fun _ _ => tw_ar (C 1) 400 (defaultValue .boolean))) (by decide) ((tw_E19 (by decide +kernel)).trans (by rw [show tw_ln 457 = 4 from by decide +kernel])) (fun i r hi hr => ?_)
  have e0 : tw_kd (457 + 1 + i * 10) = 18 := eq_of_beq (tw_rng (n := 4) (p := fun i => tw_kd (457 + 1 + i * 10) == 18) (by decide +kernel) i hi)
  have e9 : tw_ln (457 + 1 + i * 10) = 9 := eq_of_beq (tw_rng (n := 4) (p := fun i => tw_ln (457 + 1 + i * 10) == 9) (by decide +kernel) i hi)
  refine tw_hcfM (G := tw_E B C σ) (B := B) (N := 9) (sz := 1) (ct := C 5) (cf := fun _ _ => tw_ar (C 1) 400 (defaultValue .boolean)) (m := 457 + 1 + i * 10) (by decide) ((tw_E18 e0).trans (by rw [e9])) (fun i2 r2 hi2 hr2 => tw_hcf1 (m := 457 + 1 + i * 10 + 1 + i2 * 1) ?_ r2 hr2) r (by omega)
  have e1 : tw_kd (457 + 1 + i * 10 + 1 + i2 * 1) = 14 := eq_of_beq (tw_rng (n := 9) (p := fun i2 => tw_kd (457 + 1 + i * 10 + 1 + i2 * 1) == 14) (tw_rng (n := 4) (p := fun i => (List.range 9).all fun i2 => tw_kd (457 + 1 + i * 10 + 1 + i2 * 1) == 14) (by decide +kernel) i hi) i2 hi2)
  have e2 : tw_ln (457 + 1 + i * 10 + 1 + i2 * 1) = 400 := eq_of_beq (tw_rng (n := 9) (p := fun i2 => tw_ln (457 + 1 + i * 10 + 1 + i2 * 1) == 400) (tw_rng (n := 4) (p := fun i => (List.range 9).all fun i2 => tw_ln (457 + 1 + i * 10 + 1 + i2 * 1) == 400) (by decide +kernel) i hi) i2 hi2)
  rw [tw_E14 e1, e2, h0 _ (by omega) (by omega)]
theorem hcf_498_10 {B : Nat} {C : Nat → ClassId} {σ : tw_Sg} (h0 : ∀ q, 443 ≤ q → q < 1036 → σ q = fun _ => 0) : ∀ j, j < 10 → ∃ a, tw_E B C σ (498 + j) = .inl a ∧ vp_cell a.1 a.2 = tw_cfm (C 5) 9 1 (fun _ _ => tw_ar (C 1) 400 (defaultValue .boolean)) (B + 498) j := by
  refine tw_hcfM (G := tw_E B C σ) (B := B) (m := 498) (N := 9) (sz := 1) (ct := C 5) (cf := fun _ _ => tw_ar (C 1) 400 (defaultValue .boolean)) (by decide) ((tw_E18 (by decide +kernel)).trans (by rw [show tw_ln 498 = 9 from by decide +kernel])) (fun i r hi hr => tw_hcf1 (m := 498 + 1 + i * 1) ?_ r hr)
  have e1 : tw_kd (498 + 1 + i * 1) = 14 := eq_of_beq (tw_rng (n := 9) (p := fun i => tw_kd (498 + 1 + i * 1) == 14) (by decide +kernel) i hi)
  have e2 : tw_ln (498 + 1 + i * 1) = 400 := eq_of_beq (tw_rng (n := 9) (p := fun i => tw_ln (498 + 1 + i * 1) == 400) (by decide +kernel) i hi)
  rw [tw_E14 e1, e2, h0 _ (by omega) (by omega)]
theorem hcf_513_10 {B : Nat} {C : Nat → ClassId} {σ : tw_Sg} (h0 : ∀ q, 443 ≤ q → q < 1036 → σ q = fun _ => 0) : ∀ j, j < 10 → ∃ a, tw_E B C σ (513 + j) = .inl a ∧ vp_cell a.1 a.2 = tw_cfm (C 4) 9 1 (fun _ _ => tw_ar (C 0) 9 (defaultValue .int)) (B + 513) j := by
  refine tw_hcfM (G := tw_E B C σ) (B := B) (m := 513) (N := 9) (sz := 1) (ct := C 4) (cf := fun _ _ => tw_ar (C 0) 9 (defaultValue .int)) (by decide) ((tw_E17 (by decide +kernel)).trans (by rw [show tw_ln 513 = 9 from by decide +kernel])) (fun i r hi hr => tw_hcf1 (m := 513 + 1 + i * 1) ?_ r hr)
  have e1 : tw_kd (513 + 1 + i * 1) = 13 := eq_of_beq (tw_rng (n := 9) (p := fun i => tw_kd (513 + 1 + i * 1) == 13) (by decide +kernel) i hi)
  have e2 : tw_ln (513 + 1 + i * 1) = 9 := eq_of_beq (tw_rng (n := 9) (p := fun i => tw_ln (513 + 1 + i * 1) == 9) (by decide +kernel) i hi)
  rw [tw_E13 e1, e2, h0 _ (by omega) (by omega)]
theorem hcf_523_513 {B : Nat} {C : Nat → ClassId} {σ : tw_Sg} (h0 : ∀ q, 443 ≤ q → q < 1036 → σ q = fun _ => 0) : ∀ j, j < 513 → ∃ a, tw_E B C σ (523 + j) = .inl a ∧ vp_cell a.1 a.2 = tw_cfm (C 4) 512 1 (fun _ _ => tw_ar (C 0) 9 (defaultValue .int)) (B + 523) j := by
  refine tw_hcfM (G := tw_E B C σ) (B := B) (m := 523) (N := 512) (sz := 1) (ct := C 4) (cf := fun _ _ => tw_ar (C 0) 9 (defaultValue .int)) (by decide) ((tw_E17 (by decide +kernel)).trans (by rw [show tw_ln 523 = 512 from by decide +kernel])) (fun i r hi hr => tw_hcf1 (m := 523 + 1 + i * 1) ?_ r hr)
  have e1 : tw_kd (523 + 1 + i * 1) = 13 := eq_of_beq (tw_rng (n := 512) (p := fun i => tw_kd (523 + 1 + i * 1) == 13) (by decide +kernel) i hi)
  have e2 : tw_ln (523 + 1 + i * 1) = 9 := eq_of_beq (tw_rng (n := 512) (p := fun i => tw_ln (523 + 1 + i * 1) == 9) (by decide +kernel) i hi)
  rw [tw_E13 e1, e2, h0 _ (by omega) (by omega)]
set_option maxRecDepth 100000 in
set_option maxHeartbeats 4000000 in
theorem tw_i_X12 {l : Launch} {B : Nat} {D : va_G} {C : Nat → ClassId} {S : Nat → Nat} {σ σ' : tw_Sg} {F : Nat → va_E} {n : Nat} (hb : ty_P_X12_layMap n 444 (1 : Int32) (1 : Int32) σ = some σ') (hσ : σ 442 = fun i => if i = 7 then -1 else 0) (h0 : ∀ q, 443 ≤ q → q < 1036 → σ q = fun _ => 0) (hF0 : ∀ q, q < 442 → F q = tw_E B C σ q) (hF : F 442 = .inr (12, [.int 0, .null, .int 0, .int 0, .int 0, .int 0, .int 0, .int 0, .null, .null, .null, .int 0, .int 0, .int 0, .int 0, .int 0, .int 0, .int 0, .int 0, .null, .null, .null, .int 0, .null, .null, .null, .null, .null, .null, .null, .null])) : tw_MetC l B D C S yX12_init cX12_init 1 { frames := 1, cells := 593, slots := 35437, locals := 23 } [.ref (B + 442)] F 443 (tw_E B C σ') 1036 := by
  refine tw_metOfC (by decide +kernel) (Nat.le_of_ble_eq_true rfl) ?_
  intro z el eB eD eC eS eR ec es hz hAK hnm X hret hQ
  subst el eB eD eC eS
  have X : tw_X z cX12_init "TreasureWalkModel" 1 := X
  have n0 : (tw_zs z).vm.findClass "[I" = some (tw_zC z 0) := (X.K.2 0 _ rfl).2
  have n1 : (tw_zs z).vm.findClass "[Z" = some (tw_zC z 1) := (X.K.2 1 _ rfl).2
  have n4 : (tw_zs z).vm.findClass "[[I" = some (tw_zC z 4) := (X.K.2 4 _ rfl).2
  have n5 : (tw_zs z).vm.findClass "[[Z" = some (tw_zC z 5) := (X.K.2 5 _ rfl).2
  have n6 : (tw_zs z).vm.findClass "[[[Z" = some (tw_zC z 6) := (X.K.2 6 _ rfl).2
  have hmz2i : ∀ V : Vm, (tw_zs z).vm.Alike V → (tw_zl z).admits (tw_ze z) → ∀ (n k : Int32) (N K : Nat), ¬ n < 0 → n.toNatClampNeg = N ∧ N ≤ 10000 → ¬ k < 0 → k.toNatClampNeg = K ∧ K ≤ 10000 → ([k].find? (· < 0)) = none → tw_Mz V (tw_ze z) (fun s => tw_mk (tw_f1 (tw_zC z 0) K (defaultValue .int)) 1 (tw_zC z 4) N s N) (tw_zC z 4) [n, k] (1 + N * 1) (N + N * K) := fun V hV hA n k N K hn hN hk hK hf => tw_hmzM hA (tw_Gr1 _ _ _) (tw_hmz1 (t := .int) hA (tw_kind1 hV (X.K.2 0 _ rfl).1) rfl rfl (by decide) k K hk hK) (tw_kind hV hAK.2.2.2.1 n4 n0) rfl (by decide) hf n N hn hN
  have hmz2b : ∀ V : Vm, (tw_zs z).vm.Alike V → (tw_zl z).admits (tw_ze z) → ∀ (n k : Int32) (N K : Nat), ¬ n < 0 → n.toNatClampNeg = N ∧ N ≤ 10000 → ¬ k < 0 → k.toNatClampNeg = K ∧ K ≤ 10000 → ([k].find? (· < 0)) = none → tw_Mz V (tw_ze z) (fun s => tw_mk (tw_f1 (tw_zC z 1) K (defaultValue .boolean)) 1 (tw_zC z 5) N s N) (tw_zC z 5) [n, k] (1 + N * 1) (N + N * K) := fun V hV hA n k N K hn hN hk hK hf => tw_hmzM hA (tw_Gr1 _ _ _) (tw_hmz1 (t := .boolean) hA (tw_kind1 hV (X.K.2 1 _ rfl).1) rfl rfl (by decide) k K hk hK) (tw_kind hV hAK.2.2.2.2.1 n5 n1) rfl (by decide) hf n N hn hN
  have hmz3b : ∀ V : Vm, (tw_zs z).vm.Alike V → (tw_zl z).admits (tw_ze z) → tw_Mz V (tw_ze z) (fun s => tw_mk (fun s => tw_mk (tw_f1 (tw_zC z 1) 400 (defaultValue .boolean)) 1 (tw_zC z 5) 9 s 9) 10 (tw_zC z 6) 4 s 4) (tw_zC z 6) [4, 9, 400] 41 14440 := fun V hV hA => tw_hmzM hA (tw_GrM (tw_Gr1 _ _ _) (by decide) _ _) (hmz2b V hV hA 9 400 9 400 (by decide) (by decide) (by decide) (by decide) (by decide)) (tw_kind hV hAK.2.2.2.2.2 n6 n5) rfl (by decide) (by decide) 4 4 (by decide) (by decide)
  show tw_Rc z F 443 0 [(0, .ref (tw_zB z + 442))] []
  refine tw_Rc.z0 ec es ?_
  refine tw_Rc.cong ?_ (tw_cw_0 (G := tw_E (tw_zB z) (tw_zC z) σ) hF)
  refine c_aload_n (z := tw_cz z 0 0) X dX12_init_0 rfl 0 rfl ?_
  refine c_obj (z := tw_cz z 0 0) X dX12_init_1 _ tw_u1242 (List.mem_of_getElem? tw_u121) (List.mem_of_getElem? tw_u122) (by show 1 ≤ (tw_zR z).frames; rw [eR]; exact Nat.le_of_ble_eq_true rfl) (by show 20 ≤ (tw_zR z).locals; rw [eR]; exact Nat.le_of_ble_eq_true rfl) (Nat.le_of_ble_eq_true rfl) ?_
  refine c_aload_n (z := tw_cz z 0 0) X dX12_init_4 rfl 0 rfl ?_
  refine c_sipush (z := tw_cz z 0 0) X dX12_init_5 (v := (600 : Int32)) (by decide) ?_
  refine k_newi (c := 0) (s := 0) (c' := 1) (s' := 600) (m := 443) (N := 600) X hAK dX12_init_8 (by decide) (by decide) (by omega) (by rw [eR]; exact Nat.le_of_ble_eq_true rfl) (by rw [eR]; exact Nat.le_of_ble_eq_true rfl) rfl rfl (by omega) (by rw [tw_E13 (by decide +kernel), show tw_ln 443 = 600 from by decide +kernel, h0 443 (by omega) (by omega)]) ?_
  refine k_putF (ci := 12) (T := TX12) (f := 1) (fs' := [.int 0, .ref (tw_zB z + 443), .int 0, .int 0, .int 0, .int 0, .int 0, .int 0, .null, .null, .null, .int 0, .int 0, .int 0, .int 0, .int 0, .int 0, .int 0, .int 0, .null, .null, .null, .int 0, .null, .null, .null, .null, .null, .null, .null, .null]) (ty := .array (.int)) X hnm hz (by omega) dX12_init_10 _ tw_u1253 tw_in12 tyX12 tyX12_ok nmX12 rfl (by decide) rfl rfl (by decide +kernel) rfl rfl (by omega) (Nat.le_of_ble_eq_true rfl) rfl ?_
  refine c_aload_n (z := tw_cz z 1 600) X dX12_init_13 rfl 0 rfl ?_
  refine c_iconst (z := tw_cz z 1 600) X dX12_init_14 (v := (-1 : Int32)) (by decide) ?_
  refine k_put (ci := 12) (T := TX12) (f := 7) (fs' := [.int 0, .ref (tw_zB z + 443), .int 0, .int 0, .int 0, .int 0, .int 0, .int (-1), .null, .null, .null, .int 0, .int 0, .int 0, .int 0, .int 0, .int 0, .int 0, .int 0, .null, .null, .null, .int 0, .null, .null, .null, .null, .null, .null, .null, .null]) (ty := .int) X  hz (by omega) dX12_init_15 _ tw_u1259 tw_in12 tyX12 tyX12_ok nmX12 rfl (by decide) rfl (by decide +kernel) rfl rfl (by omega) (Nat.le_of_ble_eq_true rfl) rfl ?_
  refine c_aload_n (z := tw_cz z 1 600) X dX12_init_18 rfl 0 rfl ?_
  refine c_sipush (z := tw_cz z 1 600) X dX12_init_19 (v := (1028 : Int32)) (by decide) ?_
  refine k_newi (c := 1) (s := 600) (c' := 2) (s' := 1628) (m := 444) (N := 1028) X hAK dX12_init_22 (by decide) (by decide) (by omega) (by rw [eR]; exact Nat.le_of_ble_eq_true rfl) (by rw [eR]; exact Nat.le_of_ble_eq_true rfl) rfl rfl (by omega) (by rw [tw_E13 (by decide +kernel), show tw_ln 444 = 1028 from by decide +kernel, h0 444 (by omega) (by omega)]) ?_
  refine k_putF (ci := 12) (T := TX12) (f := 8) (fs' := [.int 0, .ref (tw_zB z + 443), .int 0, .int 0, .int 0, .int 0, .int 0, .int (-1), .ref (tw_zB z + 444), .null, .null, .int 0, .int 0, .int 0, .int 0, .int 0, .int 0, .int 0, .int 0, .null, .null, .null, .int 0, .null, .null, .null, .null, .null, .null, .null, .null]) (ty := .array (.int)) X hnm hz (by omega) dX12_init_24 _ tw_u1260 tw_in12 tyX12 tyX12_ok nmX12 rfl (by decide) rfl rfl (by decide +kernel) rfl rfl (by omega) (Nat.le_of_ble_eq_true rfl) rfl ?_
  refine c_aload_n (z := tw_cz z 2 1628) X dX12_init_27 rfl 0 rfl ?_
  refine c_sipush (z := tw_cz z 2 1628) X dX12_init_28 (v := (1028 : Int32)) (by decide) ?_
  refine k_newi (c := 2) (s := 1628) (c' := 3) (s' := 2656) (m := 445) (N := 1028) X hAK dX12_init_31 (by decide) (by decide) (by omega) (by rw [eR]; exact Nat.le_of_ble_eq_true rfl) (by rw [eR]; exact Nat.le_of_ble_eq_true rfl) rfl rfl (by omega) (by rw [tw_E13 (by decide +kernel), show tw_ln 445 = 1028 from by decide +kernel, h0 445 (by omega) (by omega)]) ?_
  refine k_putF (ci := 12) (T := TX12) (f := 9) (fs' := [.int 0, .ref (tw_zB z + 443), .int 0, .int 0, .int 0, .int 0, .int 0, .int (-1), .ref (tw_zB z + 444), .ref (tw_zB z + 445), .null, .int 0, .int 0, .int 0, .int 0, .int 0, .int 0, .int 0, .int 0, .null, .null, .null, .int 0, .null, .null, .null, .null, .null, .null, .null, .null]) (ty := .array (.int)) X hnm hz (by omega) dX12_init_33 _ tw_u1261 tw_in12 tyX12 tyX12_ok nmX12 rfl (by decide) rfl rfl (by decide +kernel) rfl rfl (by omega) (Nat.le_of_ble_eq_true rfl) rfl ?_
  refine c_aload_n (z := tw_cz z 3 2656) X dX12_init_36 rfl 0 rfl ?_
  refine c_bipush (z := tw_cz z 3 2656) X dX12_init_37 (v := (8 : Int32)) (by decide) ?_
  refine c_sipush (z := tw_cz z 3 2656) X dX12_init_39 (v := (1028 : Int32)) (by decide) ?_
  refine c_mna2 (z := tw_cz z 3 2656) (mm := 446) (sz := 9) (sl := 8232) (f := (fun s => tw_mk (tw_f1 (tw_zC z 0) 1028 (defaultValue .int)) 1 (tw_zC z 4) 8 s 8)) (cf := _) (F' := (tw_cw (tw_E (tw_zB z) (tw_zC z) σ) F 442 (.inr (12, [.int 0, .ref (tw_zB z + 443), .int 0, .int 0, .int 0, .int 0, .int 0, .int (-1), .ref (tw_zB z + 444), .ref (tw_zB z + 445), .null, .int 0, .int 0, .int 0, .int 0, .int 0, .int 0, .int 0, .int 0, .null, .null, .null, .int 0, .null, .null, .null, .null, .null, .null, .null, .null])) 455)) (n := (8 : Int32)) (k := (1028 : Int32)) X dX12_init_42 _ tw_u1243 n4 (by decide) (tw_GrM (tw_Gr1 _ _ _) (by decide) _ _) (fun V hV hA => hmz2i V hV hA 8 1028 8 1028 (by decide) (by decide) (by decide) (by decide) (by decide)) (by show 3 + 9 ≤ (tw_zR z).cells; rw [eR]; exact Nat.le_of_ble_eq_true rfl) (by show 2656 + 8232 ≤ (tw_zR z).slots; rw [eR]; exact Nat.le_of_ble_eq_true rfl) ?_ (fun q hq => ?_) ?_
  · intro j hj
    obtain ⟨a, e1, e2⟩ := hcf_446_9 (B := tw_zB z) (C := tw_zC z) h0 j hj
    exact ⟨a, (tw_cw_g (by omega) (by omega)).trans e1, e2⟩
  · exact tw_cwold hq (by omega)
  show tw_Rc (tw_cz z 12 10888) _ 455 46 _ _
  refine k_putF (ci := 12) (T := TX12) (f := 10) (fs' := [.int 0, .ref (tw_zB z + 443), .int 0, .int 0, .int 0, .int 0, .int 0, .int (-1), .ref (tw_zB z + 444), .ref (tw_zB z + 445), .ref (tw_zB z + 446), .int 0, .int 0, .int 0, .int 0, .int 0, .int 0, .int 0, .int 0, .null, .null, .null, .int 0, .null, .null, .null, .null, .null, .null, .null, .null]) (ty := .array (.array (.int))) X hnm hz (by omega) dX12_init_46 _ tw_u1262 tw_in12 tyX12 tyX12_ok nmX12 rfl (by decide) rfl rfl (by decide +kernel) rfl rfl (by omega) (Nat.le_of_ble_eq_true rfl) rfl ?_
  refine c_aload_n (z := tw_cz z 12 10888) X dX12_init_49 rfl 0 rfl ?_
  refine c_bipush (z := tw_cz z 12 10888) X dX12_init_50 (v := (36 : Int32)) (by decide) ?_
  refine k_newi (c := 12) (s := 10888) (c' := 13) (s' := 10924) (m := 455) (N := 36) X hAK dX12_init_52 (by decide) (by decide) (by omega) (by rw [eR]; exact Nat.le_of_ble_eq_true rfl) (by rw [eR]; exact Nat.le_of_ble_eq_true rfl) rfl rfl (by omega) (by rw [tw_E13 (by decide +kernel), show tw_ln 455 = 36 from by decide +kernel, h0 455 (by omega) (by omega)]) ?_
  refine k_putF (ci := 12) (T := TX12) (f := 19) (fs' := [.int 0, .ref (tw_zB z + 443), .int 0, .int 0, .int 0, .int 0, .int 0, .int (-1), .ref (tw_zB z + 444), .ref (tw_zB z + 445), .ref (tw_zB z + 446), .int 0, .int 0, .int 0, .int 0, .int 0, .int 0, .int 0, .int 0, .ref (tw_zB z + 455), .null, .null, .int 0, .null, .null, .null, .null, .null, .null, .null, .null]) (ty := .array (.int)) X hnm hz (by omega) dX12_init_54 _ tw_u1271 tw_in12 tyX12 tyX12_ok nmX12 rfl (by decide) rfl rfl (by decide +kernel) rfl rfl (by omega) (Nat.le_of_ble_eq_true rfl) rfl ?_
  refine c_aload_n (z := tw_cz z 13 10924) X dX12_init_57 rfl 0 rfl ?_
  refine c_bipush (z := tw_cz z 13 10924) X dX12_init_58 (v := (36 : Int32)) (by decide) ?_
  refine k_newi (c := 13) (s := 10924) (c' := 14) (s' := 10960) (m := 456) (N := 36) X hAK dX12_init_60 (by decide) (by decide) (by omega) (by rw [eR]; exact Nat.le_of_ble_eq_true rfl) (by rw [eR]; exact Nat.le_of_ble_eq_true rfl) rfl rfl (by omega) (by rw [tw_E13 (by decide +kernel), show tw_ln 456 = 36 from by decide +kernel, h0 456 (by omega) (by omega)]) ?_
  refine k_putF (ci := 12) (T := TX12) (f := 20) (fs' := [.int 0, .ref (tw_zB z + 443), .int 0, .int 0, .int 0, .int 0, .int 0, .int (-1), .ref (tw_zB z + 444), .ref (tw_zB z + 445), .ref (tw_zB z + 446), .int 0, .int 0, .int 0, .int 0, .int 0, .int 0, .int 0, .int 0, .ref (tw_zB z + 455), .ref (tw_zB z + 456), .null, .int 0, .null, .null, .null, .null, .null, .null, .null, .null]) (ty := .array (.int)) X hnm hz (by omega) dX12_init_62 _ tw_u1272 tw_in12 tyX12 tyX12_ok nmX12 rfl (by decide) rfl rfl (by decide +kernel) rfl rfl (by omega) (Nat.le_of_ble_eq_true rfl) rfl ?_
  refine c_aload_n (z := tw_cz z 14 10960) X dX12_init_65 rfl 0 rfl ?_
  refine c_iconst (z := tw_cz z 14 10960) X dX12_init_66 (v := (4 : Int32)) (by decide) ?_
  refine c_bipush (z := tw_cz z 14 10960) X dX12_init_67 (v := (9 : Int32)) (by decide) ?_
  refine c_sipush (z := tw_cz z 14 10960) X dX12_init_69 (v := (400 : Int32)) (by decide) ?_
  refine c_mna3 (z := tw_cz z 14 10960) (mm := 457) (sz := 41) (sl := 14440) (f := (fun s => tw_mk (fun s => tw_mk (tw_f1 (tw_zC z 1) 400 (defaultValue .boolean)) 1 (tw_zC z 5) 9 s 9) 10 (tw_zC z 6) 4 s 4)) (cf := _) (F' := (tw_cw (tw_E (tw_zB z) (tw_zC z) σ) F 442 (.inr (12, [.int 0, .ref (tw_zB z + 443), .int 0, .int 0, .int 0, .int 0, .int 0, .int (-1), .ref (tw_zB z + 444), .ref (tw_zB z + 445), .ref (tw_zB z + 446), .int 0, .int 0, .int 0, .int 0, .int 0, .int 0, .int 0, .int 0, .ref (tw_zB z + 455), .ref (tw_zB z + 456), .null, .int 0, .null, .null, .null, .null, .null, .null, .null, .null])) 498)) (n := (4 : Int32)) (k := (9 : Int32)) (q := (400 : Int32)) X dX12_init_72 _ tw_u1245 n6 (by decide) (tw_GrM (tw_GrM (tw_Gr1 _ _ _) (by decide) _ _) (by decide) _ _) (fun V hV hA => hmz3b V hV hA) (by show 14 + 41 ≤ (tw_zR z).cells; rw [eR]; exact Nat.le_of_ble_eq_true rfl) (by show 10960 + 14440 ≤ (tw_zR z).slots; rw [eR]; exact Nat.le_of_ble_eq_true rfl) ?_ (fun q hq => ?_) ?_
  · intro j hj
    obtain ⟨a, e1, e2⟩ := hcf_457_41 (B := tw_zB z) (C := tw_zC z) h0 j hj
    exact ⟨a, (tw_cw_g (by omega) (by omega)).trans e1, e2⟩
  · exact tw_cwold hq (by omega)
  show tw_Rc (tw_cz z 55 25400) _ 498 76 _ _
  refine k_putF (ci := 12) (T := TX12) (f := 21) (fs' := [.int 0, .ref (tw_zB z + 443), .int 0, .int 0, .int 0, .int 0, .int 0, .int (-1), .ref (tw_zB z + 444), .ref (tw_zB z + 445), .ref (tw_zB z + 446), .int 0, .int 0, .int 0, .int 0, .int 0, .int 0, .int 0, .int 0, .ref (tw_zB z + 455), .ref (tw_zB z + 456), .ref (tw_zB z + 457), .int 0, .null, .null, .null, .null, .null, .null, .null, .null]) (ty := .array (.array (.array (.boolean)))) X hnm hz (by omega) dX12_init_76 _ tw_u1273 tw_in12 tyX12 tyX12_ok nmX12 rfl (by decide) rfl rfl (by decide +kernel) rfl rfl (by omega) (Nat.le_of_ble_eq_true rfl) rfl ?_
  refine c_aload_n (z := tw_cz z 55 25400) X dX12_init_79 rfl 0 rfl ?_
  refine c_bipush (z := tw_cz z 55 25400) X dX12_init_80 (v := (9 : Int32)) (by decide) ?_
  refine c_sipush (z := tw_cz z 55 25400) X dX12_init_82 (v := (400 : Int32)) (by decide) ?_
  refine c_mna2 (z := tw_cz z 55 25400) (mm := 498) (sz := 10) (sl := 3609) (f := (fun s => tw_mk (tw_f1 (tw_zC z 1) 400 (defaultValue .boolean)) 1 (tw_zC z 5) 9 s 9)) (cf := _) (F' := (tw_cw (tw_E (tw_zB z) (tw_zC z) σ) F 442 (.inr (12, [.int 0, .ref (tw_zB z + 443), .int 0, .int 0, .int 0, .int 0, .int 0, .int (-1), .ref (tw_zB z + 444), .ref (tw_zB z + 445), .ref (tw_zB z + 446), .int 0, .int 0, .int 0, .int 0, .int 0, .int 0, .int 0, .int 0, .ref (tw_zB z + 455), .ref (tw_zB z + 456), .ref (tw_zB z + 457), .int 0, .null, .null, .null, .null, .null, .null, .null, .null])) 508)) (n := (9 : Int32)) (k := (400 : Int32)) X dX12_init_85 _ tw_u1248 n5 (by decide) (tw_GrM (tw_Gr1 _ _ _) (by decide) _ _) (fun V hV hA => hmz2b V hV hA 9 400 9 400 (by decide) (by decide) (by decide) (by decide) (by decide)) (by show 55 + 10 ≤ (tw_zR z).cells; rw [eR]; exact Nat.le_of_ble_eq_true rfl) (by show 25400 + 3609 ≤ (tw_zR z).slots; rw [eR]; exact Nat.le_of_ble_eq_true rfl) ?_ (fun q hq => ?_) ?_
  · intro j hj
    obtain ⟨a, e1, e2⟩ := hcf_498_10 (B := tw_zB z) (C := tw_zC z) h0 j hj
    exact ⟨a, (tw_cw_g (by omega) (by omega)).trans e1, e2⟩
  · exact tw_cwold hq (by omega)
  show tw_Rc (tw_cz z 65 29009) _ 508 89 _ _
  refine k_putF (ci := 12) (T := TX12) (f := 23) (fs' := [.int 0, .ref (tw_zB z + 443), .int 0, .int 0, .int 0, .int 0, .int 0, .int (-1), .ref (tw_zB z + 444), .ref (tw_zB z + 445), .ref (tw_zB z + 446), .int 0, .int 0, .int 0, .int 0, .int 0, .int 0, .int 0, .int 0, .ref (tw_zB z + 455), .ref (tw_zB z + 456), .ref (tw_zB z + 457), .int 0, .ref (tw_zB z + 498), .null, .null, .null, .null, .null, .null, .null]) (ty := .array (.array (.boolean))) X hnm hz (by omega) dX12_init_89 _ tw_u1275 tw_in12 tyX12 tyX12_ok nmX12 rfl (by decide) rfl rfl (by decide +kernel) rfl rfl (by omega) (Nat.le_of_ble_eq_true rfl) rfl ?_
  refine c_aload_n (z := tw_cz z 65 29009) X dX12_init_92 rfl 0 rfl ?_
  refine c_sipush (z := tw_cz z 65 29009) X dX12_init_93 (v := (400 : Int32)) (by decide) ?_
  refine k_newi (c := 65) (s := 29009) (c' := 66) (s' := 29409) (m := 508) (N := 400) X hAK dX12_init_96 (by decide) (by decide) (by omega) (by rw [eR]; exact Nat.le_of_ble_eq_true rfl) (by rw [eR]; exact Nat.le_of_ble_eq_true rfl) rfl rfl (by omega) (by rw [tw_E13 (by decide +kernel), show tw_ln 508 = 400 from by decide +kernel, h0 508 (by omega) (by omega)]) ?_
  refine k_putF (ci := 12) (T := TX12) (f := 24) (fs' := [.int 0, .ref (tw_zB z + 443), .int 0, .int 0, .int 0, .int 0, .int 0, .int (-1), .ref (tw_zB z + 444), .ref (tw_zB z + 445), .ref (tw_zB z + 446), .int 0, .int 0, .int 0, .int 0, .int 0, .int 0, .int 0, .int 0, .ref (tw_zB z + 455), .ref (tw_zB z + 456), .ref (tw_zB z + 457), .int 0, .ref (tw_zB z + 498), .ref (tw_zB z + 508), .null, .null, .null, .null, .null, .null]) (ty := .array (.int)) X hnm hz (by omega) dX12_init_98 _ tw_u1276 tw_in12 tyX12 tyX12_ok nmX12 rfl (by decide) rfl rfl (by decide +kernel) rfl rfl (by omega) (Nat.le_of_ble_eq_true rfl) rfl ?_
  refine c_aload_n (z := tw_cz z 66 29409) X dX12_init_101 rfl 0 rfl ?_
  refine c_sipush (z := tw_cz z 66 29409) X dX12_init_102 (v := (400 : Int32)) (by decide) ?_
  refine k_newi (c := 66) (s := 29409) (c' := 67) (s' := 29809) (m := 509) (N := 400) X hAK dX12_init_105 (by decide) (by decide) (by omega) (by rw [eR]; exact Nat.le_of_ble_eq_true rfl) (by rw [eR]; exact Nat.le_of_ble_eq_true rfl) rfl rfl (by omega) (by rw [tw_E13 (by decide +kernel), show tw_ln 509 = 400 from by decide +kernel, h0 509 (by omega) (by omega)]) ?_
  refine k_putF (ci := 12) (T := TX12) (f := 25) (fs' := [.int 0, .ref (tw_zB z + 443), .int 0, .int 0, .int 0, .int 0, .int 0, .int (-1), .ref (tw_zB z + 444), .ref (tw_zB z + 445), .ref (tw_zB z + 446), .int 0, .int 0, .int 0, .int 0, .int 0, .int 0, .int 0, .int 0, .ref (tw_zB z + 455), .ref (tw_zB z + 456), .ref (tw_zB z + 457), .int 0, .ref (tw_zB z + 498), .ref (tw_zB z + 508), .ref (tw_zB z + 509), .null, .null, .null, .null, .null]) (ty := .array (.int)) X hnm hz (by omega) dX12_init_107 _ tw_u1277 tw_in12 tyX12 tyX12_ok nmX12 rfl (by decide) rfl rfl (by decide +kernel) rfl rfl (by omega) (Nat.le_of_ble_eq_true rfl) rfl ?_
  refine c_aload_n (z := tw_cz z 67 29809) X dX12_init_110 rfl 0 rfl ?_
  refine c_sipush (z := tw_cz z 67 29809) X dX12_init_111 (v := (400 : Int32)) (by decide) ?_
  refine k_newi (c := 67) (s := 29809) (c' := 68) (s' := 30209) (m := 510) (N := 400) X hAK dX12_init_114 (by decide) (by decide) (by omega) (by rw [eR]; exact Nat.le_of_ble_eq_true rfl) (by rw [eR]; exact Nat.le_of_ble_eq_true rfl) rfl rfl (by omega) (by rw [tw_E13 (by decide +kernel), show tw_ln 510 = 400 from by decide +kernel, h0 510 (by omega) (by omega)]) ?_
  refine k_putF (ci := 12) (T := TX12) (f := 26) (fs' := [.int 0, .ref (tw_zB z + 443), .int 0, .int 0, .int 0, .int 0, .int 0, .int (-1), .ref (tw_zB z + 444), .ref (tw_zB z + 445), .ref (tw_zB z + 446), .int 0, .int 0, .int 0, .int 0, .int 0, .int 0, .int 0, .int 0, .ref (tw_zB z + 455), .ref (tw_zB z + 456), .ref (tw_zB z + 457), .int 0, .ref (tw_zB z + 498), .ref (tw_zB z + 508), .ref (tw_zB z + 509), .ref (tw_zB z + 510), .null, .null, .null, .null]) (ty := .array (.int)) X hnm hz (by omega) dX12_init_116 _ tw_u1278 tw_in12 tyX12 tyX12_ok nmX12 rfl (by decide) rfl rfl (by decide +kernel) rfl rfl (by omega) (Nat.le_of_ble_eq_true rfl) rfl ?_
  refine c_aload_n (z := tw_cz z 68 30209) X dX12_init_119 rfl 0 rfl ?_
  refine c_bipush (z := tw_cz z 68 30209) X dX12_init_120 (v := (9 : Int32)) (by decide) ?_
  refine k_newi (c := 68) (s := 30209) (c' := 69) (s' := 30218) (m := 511) (N := 9) X hAK dX12_init_122 (by decide) (by decide) (by omega) (by rw [eR]; exact Nat.le_of_ble_eq_true rfl) (by rw [eR]; exact Nat.le_of_ble_eq_true rfl) rfl rfl (by omega) (by rw [tw_E13 (by decide +kernel), show tw_ln 511 = 9 from by decide +kernel, h0 511 (by omega) (by omega)]) ?_
  refine k_putF (ci := 12) (T := TX12) (f := 27) (fs' := [.int 0, .ref (tw_zB z + 443), .int 0, .int 0, .int 0, .int 0, .int 0, .int (-1), .ref (tw_zB z + 444), .ref (tw_zB z + 445), .ref (tw_zB z + 446), .int 0, .int 0, .int 0, .int 0, .int 0, .int 0, .int 0, .int 0, .ref (tw_zB z + 455), .ref (tw_zB z + 456), .ref (tw_zB z + 457), .int 0, .ref (tw_zB z + 498), .ref (tw_zB z + 508), .ref (tw_zB z + 509), .ref (tw_zB z + 510), .ref (tw_zB z + 511), .null, .null, .null]) (ty := .array (.int)) X hnm hz (by omega) dX12_init_124 _ tw_u1279 tw_in12 tyX12 tyX12_ok nmX12 rfl (by decide) rfl rfl (by decide +kernel) rfl rfl (by omega) (Nat.le_of_ble_eq_true rfl) rfl ?_
  refine c_aload_n (z := tw_cz z 69 30218) X dX12_init_127 rfl 0 rfl ?_
  refine c_bipush (z := tw_cz z 69 30218) X dX12_init_128 (v := (9 : Int32)) (by decide) ?_
  refine k_newi (c := 69) (s := 30218) (c' := 70) (s' := 30227) (m := 512) (N := 9) X hAK dX12_init_130 (by decide) (by decide) (by omega) (by rw [eR]; exact Nat.le_of_ble_eq_true rfl) (by rw [eR]; exact Nat.le_of_ble_eq_true rfl) rfl rfl (by omega) (by rw [tw_E13 (by decide +kernel), show tw_ln 512 = 9 from by decide +kernel, h0 512 (by omega) (by omega)]) ?_
  refine k_putF (ci := 12) (T := TX12) (f := 28) (fs' := [.int 0, .ref (tw_zB z + 443), .int 0, .int 0, .int 0, .int 0, .int 0, .int (-1), .ref (tw_zB z + 444), .ref (tw_zB z + 445), .ref (tw_zB z + 446), .int 0, .int 0, .int 0, .int 0, .int 0, .int 0, .int 0, .int 0, .ref (tw_zB z + 455), .ref (tw_zB z + 456), .ref (tw_zB z + 457), .int 0, .ref (tw_zB z + 498), .ref (tw_zB z + 508), .ref (tw_zB z + 509), .ref (tw_zB z + 510), .ref (tw_zB z + 511), .ref (tw_zB z + 512), .null, .null]) (ty := .array (.int)) X hnm hz (by omega) dX12_init_132 _ tw_u1280 tw_in12 tyX12 tyX12_ok nmX12 rfl (by decide) rfl rfl (by decide +kernel) rfl rfl (by omega) (Nat.le_of_ble_eq_true rfl) rfl ?_
  refine c_aload_n (z := tw_cz z 70 30227) X dX12_init_135 rfl 0 rfl ?_
  refine c_bipush (z := tw_cz z 70 30227) X dX12_init_136 (v := (9 : Int32)) (by decide) ?_
  refine c_bipush (z := tw_cz z 70 30227) X dX12_init_138 (v := (9 : Int32)) (by decide) ?_
  refine c_mna2 (z := tw_cz z 70 30227) (mm := 513) (sz := 10) (sl := 90) (f := (fun s => tw_mk (tw_f1 (tw_zC z 0) 9 (defaultValue .int)) 1 (tw_zC z 4) 9 s 9)) (cf := _) (F' := (tw_cw (tw_E (tw_zB z) (tw_zC z) σ) F 442 (.inr (12, [.int 0, .ref (tw_zB z + 443), .int 0, .int 0, .int 0, .int 0, .int 0, .int (-1), .ref (tw_zB z + 444), .ref (tw_zB z + 445), .ref (tw_zB z + 446), .int 0, .int 0, .int 0, .int 0, .int 0, .int 0, .int 0, .int 0, .ref (tw_zB z + 455), .ref (tw_zB z + 456), .ref (tw_zB z + 457), .int 0, .ref (tw_zB z + 498), .ref (tw_zB z + 508), .ref (tw_zB z + 509), .ref (tw_zB z + 510), .ref (tw_zB z + 511), .ref (tw_zB z + 512), .null, .null])) 523)) (n := (9 : Int32)) (k := (9 : Int32)) X dX12_init_140 _ tw_u1243 n4 (by decide) (tw_GrM (tw_Gr1 _ _ _) (by decide) _ _) (fun V hV hA => hmz2i V hV hA 9 9 9 9 (by decide) (by decide) (by decide) (by decide) (by decide)) (by show 70 + 10 ≤ (tw_zR z).cells; rw [eR]; exact Nat.le_of_ble_eq_true rfl) (by show 30227 + 90 ≤ (tw_zR z).slots; rw [eR]; exact Nat.le_of_ble_eq_true rfl) ?_ (fun q hq => ?_) ?_
  · intro j hj
    obtain ⟨a, e1, e2⟩ := hcf_513_10 (B := tw_zB z) (C := tw_zC z) h0 j hj
    exact ⟨a, (tw_cw_g (by omega) (by omega)).trans e1, e2⟩
  · exact tw_cwold hq (by omega)
  show tw_Rc (tw_cz z 80 30317) _ 523 144 _ _
  refine k_putF (ci := 12) (T := TX12) (f := 29) (fs' := [.int 0, .ref (tw_zB z + 443), .int 0, .int 0, .int 0, .int 0, .int 0, .int (-1), .ref (tw_zB z + 444), .ref (tw_zB z + 445), .ref (tw_zB z + 446), .int 0, .int 0, .int 0, .int 0, .int 0, .int 0, .int 0, .int 0, .ref (tw_zB z + 455), .ref (tw_zB z + 456), .ref (tw_zB z + 457), .int 0, .ref (tw_zB z + 498), .ref (tw_zB z + 508), .ref (tw_zB z + 509), .ref (tw_zB z + 510), .ref (tw_zB z + 511), .ref (tw_zB z + 512), .ref (tw_zB z + 513), .null]) (ty := .array (.array (.int))) X hnm hz (by omega) dX12_init_144 _ tw_u1281 tw_in12 tyX12 tyX12_ok nmX12 rfl (by decide) rfl rfl (by decide +kernel) rfl rfl (by omega) (Nat.le_of_ble_eq_true rfl) rfl ?_
  refine c_aload_n (z := tw_cz z 80 30317) X dX12_init_147 rfl 0 rfl ?_
  refine c_sipush (z := tw_cz z 80 30317) X dX12_init_148 (v := (512 : Int32)) (by decide) ?_
  refine c_bipush (z := tw_cz z 80 30317) X dX12_init_151 (v := (9 : Int32)) (by decide) ?_
  refine c_mna2 (z := tw_cz z 80 30317) (mm := 523) (sz := 513) (sl := 5120) (f := (fun s => tw_mk (tw_f1 (tw_zC z 0) 9 (defaultValue .int)) 1 (tw_zC z 4) 512 s 512)) (cf := _) (F' := (tw_cw (tw_E (tw_zB z) (tw_zC z) σ) F 442 (.inr (12, [.int 0, .ref (tw_zB z + 443), .int 0, .int 0, .int 0, .int 0, .int 0, .int (-1), .ref (tw_zB z + 444), .ref (tw_zB z + 445), .ref (tw_zB z + 446), .int 0, .int 0, .int 0, .int 0, .int 0, .int 0, .int 0, .int 0, .ref (tw_zB z + 455), .ref (tw_zB z + 456), .ref (tw_zB z + 457), .int 0, .ref (tw_zB z + 498), .ref (tw_zB z + 508), .ref (tw_zB z + 509), .ref (tw_zB z + 510), .ref (tw_zB z + 511), .ref (tw_zB z + 512), .ref (tw_zB z + 513), .null])) 1036)) (n := (512 : Int32)) (k := (9 : Int32)) X dX12_init_153 _ tw_u1243 n4 (by decide) (tw_GrM (tw_Gr1 _ _ _) (by decide) _ _) (fun V hV hA => hmz2i V hV hA 512 9 512 9 (by decide) (by decide) (by decide) (by decide) (by decide)) (by show 80 + 513 ≤ (tw_zR z).cells; rw [eR]; exact Nat.le_of_ble_eq_true rfl) (by show 30317 + 5120 ≤ (tw_zR z).slots; rw [eR]; exact Nat.le_of_ble_eq_true rfl) ?_ (fun q hq => ?_) ?_
  · intro j hj
    obtain ⟨a, e1, e2⟩ := hcf_523_513 (B := tw_zB z) (C := tw_zC z) h0 j hj
    exact ⟨a, (tw_cw_g (by omega) (by omega)).trans e1, e2⟩
  · exact tw_cwold hq (by omega)
  show tw_Rc (tw_cz z 593 35437) _ 1036 157 _ _
  refine k_putF (ci := 12) (T := TX12) (f := 30) (fs' := [.int 0, .ref (tw_zB z + 443), .int 0, .int 0, .int 0, .int 0, .int 0, .int (-1), .ref (tw_zB z + 444), .ref (tw_zB z + 445), .ref (tw_zB z + 446), .int 0, .int 0, .int 0, .int 0, .int 0, .int 0, .int 0, .int 0, .ref (tw_zB z + 455), .ref (tw_zB z + 456), .ref (tw_zB z + 457), .int 0, .ref (tw_zB z + 498), .ref (tw_zB z + 508), .ref (tw_zB z + 509), .ref (tw_zB z + 510), .ref (tw_zB z + 511), .ref (tw_zB z + 512), .ref (tw_zB z + 513), .ref (tw_zB z + 523)]) (ty := .array (.array (.int))) X hnm hz (by omega) dX12_init_157 _ tw_u1282 tw_in12 tyX12 tyX12_ok nmX12 rfl (by decide) rfl rfl (by decide +kernel) rfl rfl (by omega) (Nat.le_of_ble_eq_true rfl) rfl ?_
  refine c_aload_n (z := tw_cz z 593 35437) X dX12_init_160 rfl 0 rfl ?_
  refine c_getf (z := tw_cz z 593 35437) (ci := 12) (T := TX12) (f := 8) (k := 442) X dX12_init_161 _ tw_u1260 tw_in12 rfl (by decide) (by decide) tw_cw_s rfl ?_
  refine c_iconst (z := tw_cz z 593 35437) X dX12_init_164 (v := (1 : Int32)) (by decide) ?_
  refine c_iconst (z := tw_cz z 593 35437) X dX12_init_165 (v := (1 : Int32)) (by decide) ?_
  refine c_toY (σ := σ) (fun q hq => ?_) ?_
  · by_cases h1 : q = 442
    · subst h1
      rw [tw_cw_s, tw_E12 (by decide +kernel)]
      simp [tw_fs12, hσ]
    · by_cases h2 : q < 442
      · rw [tw_cw_f h2, hF0 q h2]
      · rw [tw_cw_g (by omega) hq]
  refine ty_r_callS (z := tw_cz z 593 35437) (As := [.ref (tw_zB z + 444), .int 1, .int 1]) X dX12_init_166 (ty_m_X12_layMap (by decide +kernel) hb) tw_y_X12_layMap tw_v_X12_layMap _ tw_u1249 rfl ⟨rfl, rfl, (by show 1 ≤ (tw_zR z).frames; rw [eR]; exact Nat.le_of_ble_eq_true rfl), (by show 23 ≤ (tw_zR z).locals; rw [eR]; exact Nat.le_of_ble_eq_true rfl)⟩ ⟨(by show 593 ≤ (tw_zR z).cells; rw [eR]; exact Nat.le_of_ble_eq_true rfl), (by show 35437 ≤ (tw_zR z).slots; rw [eR]; exact Nat.le_of_ble_eq_true rfl)⟩ (Nat.le_of_ble_eq_true rfl) rfl ?_
  refine c_ofY (by omega) ?_
  exact k_ret (B := 0) dX12_init_169 hQ rfl rfl (fun q hq => rfl)
