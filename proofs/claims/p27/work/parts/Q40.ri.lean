/-! randomIsland: its text in pieces; what changes in an island in the making -/
def dq_riE (n r1 r2 q21 : Nat) (v54 : Int32) (Y : dw_S) (c s : Nat) (Q : Option Nat × dw_S → Prop) : Prop :=
pw_ck (dw_is Y r2 15 ∧ c ≤ 300 ∧ s ≤ 2600) (
dw_P_X15_below r2 (4 : Int32) Y (fun (r61 : Int32 × dw_S) =>
pw_lt r61.1 (fun (v62 : Int32) =>
pw_ck ((¬ v62 < 0 ∧ (Int32.toNatClampNeg v62) ≤ 10000) ∧ (c + 1) ≤ 300 ∧ (s + (Int32.toNatClampNeg v62)) ≤ 2600) (
pw_al (dw_n r61.2) (fun (q63 : Nat) => pw_lt (dw_nw r61.2 q63 24 (Int32.toNatClampNeg v62) (fun _ => 0) (fun _ => none)) (fun (Y64 : dw_S) =>
pw_ck (dw_is Y64 q21 13) (pw_lt (dw_pr Y64 q21 6 (some q63)) (fun (Y65 : dw_S) =>
pw_lt (0 : Int32) (fun (v66 : Int32) =>
pw_lp (fun (k68 : (Int32 × dw_S × Nat × Nat) → Prop) (a67 : Int32 × dw_S × Nat × Nat) =>
if v62 ≤ a67.1 then (pw_ck ((a67.2.2.1 + 1) ≤ 300 ∧ (a67.2.2.2 + 6) ≤ 2600) (
dw_P_L_loadText n r1 a67.2.1 (fun (r69 : Int32 × dw_S) =>
tw_jn (fun (a70 : Option Nat) =>
pw_ck ((a67.2.2.1 + 1) ≤ 300 ∧ (a67.2.2.2 + 6) ≤ 2600) (Q (a70, r69.2))) (fun (j71 : (Option Nat) → Prop) =>
if ¬ r69.1 = v62 then (j71 none)
else (j71 (some q21))))))
else (pw_ck (dw_is a67.2.1 q21 13) (
pw_nn (dw_r a67.2.1 q21 6) (fun (r72 : Nat) =>
pw_ck ((a67.2.2.1 + 60) ≤ 300 ∧ (a67.2.2.2 + 500) ≤ 2600) (
dw_P_L_randomClue n r1 r2 v54 a67.2.1 (fun (r73 : Nat × dw_S) =>
pw_ck (dw_is r73.2 r72 24 ∧ tw_ok a67.1 (dw_l r73.2 r72) = true ∧ ∀ v, (some r73.1) = some v → dw_is r73.2 v 12) (pw_lt (dw_pr r73.2 r72 (Int32.toNatClampNeg a67.1) (some r73.1)) (fun (Y74 : dw_S) =>
pw_lt (a67.1 + (1 : Int32)) (fun (v75 : Int32) =>
k68 (v75, Y74, (a67.2.2.1 + 60), (a67.2.2.2 + 500))))))))))) n (v66, Y65, (c + 1), (s + (Int32.toNatClampNeg v62))))))))))))
def dq_riT (n r1 r2 q21 : Nat) (v54 : Int32) (Y : dw_S) (c s : Nat) (Q : Option Nat × dw_S → Prop) : Prop :=
pw_ck (dw_is Y r2 15 ∧ c ≤ 300 ∧ s ≤ 2600) (
dw_P_X15_below r2 (2 : Int32) Y (fun (r58 : Int32 × dw_S) =>
tw_jn (fun (a59 : dw_S × Nat × Nat) =>
pw_ck (dw_is a59.1 r2 15 ∧ a59.2.1 ≤ 300 ∧ a59.2.2 ≤ 2600) (
dw_P_X15_below r2 (4 : Int32) a59.1 (fun (r61 : Int32 × dw_S) =>
pw_lt r61.1 (fun (v62 : Int32) =>
pw_ck ((¬ v62 < 0 ∧ (Int32.toNatClampNeg v62) ≤ 10000) ∧ (a59.2.1 + 1) ≤ 300 ∧ (a59.2.2 + (Int32.toNatClampNeg v62)) ≤ 2600) (
pw_al (dw_n r61.2) (fun (q63 : Nat) => pw_lt (dw_nw r61.2 q63 24 (Int32.toNatClampNeg v62) (fun _ => 0) (fun _ => none)) (fun (Y64 : dw_S) =>
pw_ck (dw_is Y64 q21 13) (pw_lt (dw_pr Y64 q21 6 (some q63)) (fun (Y65 : dw_S) =>
pw_lt (0 : Int32) (fun (v66 : Int32) =>
pw_lp (fun (k68 : (Int32 × dw_S × Nat × Nat) → Prop) (a67 : Int32 × dw_S × Nat × Nat) =>
if v62 ≤ a67.1 then (pw_ck ((a67.2.2.1 + 1) ≤ 300 ∧ (a67.2.2.2 + 6) ≤ 2600) (
dw_P_L_loadText n r1 a67.2.1 (fun (r69 : Int32 × dw_S) =>
tw_jn (fun (a70 : Option Nat) =>
pw_ck ((a67.2.2.1 + 1) ≤ 300 ∧ (a67.2.2.2 + 6) ≤ 2600) (Q (a70, r69.2))) (fun (j71 : (Option Nat) → Prop) =>
if ¬ r69.1 = v62 then (j71 none)
else (j71 (some q21))))))
else (pw_ck (dw_is a67.2.1 q21 13) (
pw_nn (dw_r a67.2.1 q21 6) (fun (r72 : Nat) =>
pw_ck ((a67.2.2.1 + 60) ≤ 300 ∧ (a67.2.2.2 + 500) ≤ 2600) (
dw_P_L_randomClue n r1 r2 v54 a67.2.1 (fun (r73 : Nat × dw_S) =>
pw_ck (dw_is r73.2 r72 24 ∧ tw_ok a67.1 (dw_l r73.2 r72) = true ∧ ∀ v, (some r73.1) = some v → dw_is r73.2 v 12) (pw_lt (dw_pr r73.2 r72 (Int32.toNatClampNeg a67.1) (some r73.1)) (fun (Y74 : dw_S) =>
pw_lt (a67.1 + (1 : Int32)) (fun (v75 : Int32) =>
k68 (v75, Y74, (a67.2.2.1 + 60), (a67.2.2.2 + 500))))))))))) n (v66, Y65, (a59.2.1 + 1), (a59.2.2 + (Int32.toNatClampNeg v62))))))))))))) (fun (j60 : (dw_S × Nat × Nat) → Prop) =>
if ¬ r58.1 = 0 then (j60 (r58.2, c, s))
else (pw_ck (dw_is r58.2 q21 13) (
pw_nn (dw_r r58.2 q21 4) (fun (r76 : Nat) =>
pw_ck (dw_is r58.2 r76 20 ∧ tw_ok (0 : Int32) (dw_l r58.2 r76) = true) (
pw_ck (dw_is r58.2 q21 13) (pw_lt (dw_pi r58.2 q21 7 (dw_i r58.2 r76 0)) (fun (Y77 : dw_S) =>
pw_ck ((¬ (2 : Int32) < 0 ∧ 2 ≤ 10000) ∧ (c + 1) ≤ 300 ∧ (s + 2) ≤ 2600) (
pw_al (dw_n Y77) (fun (q78 : Nat) => pw_lt (dw_nw Y77 q78 20 2 (fun _ => 0) (fun _ => none)) (fun (Y79 : dw_S) =>
pw_ck (dw_is Y79 q21 13) (
pw_ck (dw_is Y79 q21 13) (
pw_ck (¬ (dw_i Y79 q21 0) = 0) (
pw_ck (dw_is Y79 q78 20 ∧ tw_ok (0 : Int32) (dw_l Y79 q78) = true) (pw_lt (dw_pi Y79 q78 0 ((dw_i Y79 q21 7) - (dw_i Y79 q21 7) / (dw_i Y79 q21 0) * (dw_i Y79 q21 0))) (fun (Y80 : dw_S) =>
pw_ck (dw_is Y80 q21 13) (
pw_ck (dw_is Y80 q21 13) (
pw_ck (¬ (dw_i Y80 q21 0) = 0) (
pw_ck (dw_is Y80 q78 20 ∧ tw_ok (1 : Int32) (dw_l Y80 q78) = true) (pw_lt (dw_pi Y80 q78 1 ((dw_i Y80 q21 7) / (dw_i Y80 q21 0))) (fun (Y81 : dw_S) =>
pw_ck ((c + 1) ≤ 300 ∧ (s + 2) ≤ 2600) (
dw_P_L_writeAll n r1 3 q78 Y81 (fun (r82 : dw_S) =>
pw_ck ((c + 1) ≤ 300 ∧ (s + 2) ≤ 2600) (
dw_P_L_write n r1 29 r82 (fun (r83 : dw_S) =>
j60 (r83, (c + 1), (s + 2))))))))))))))))))))))))))))
def dq_riMc (n r1 q21 : Nat) (x u : Int32) (Y : dw_S) (c s : Nat) (K : Int32 × dw_S × Nat × Nat → Prop) : Prop :=
pw_ck (dw_is Y q21 13) (
pw_nn (dw_r Y q21 4) (fun (r89 : Nat) =>
pw_ck (dw_is Y r89 20 ∧ tw_ok x (dw_l Y r89) = true) (pw_lt (dw_pi Y r89 (Int32.toNatClampNeg x) u) (fun (Y90 : dw_S) =>
pw_ck ((c + 1) ≤ 300 ∧ (s + 4) ≤ 2600) (
pw_al (dw_n Y90) (fun (q91 : Nat) => pw_lt (dw_nw Y90 q91 17 0 (fun _ => 0) (fun _ => none)) (fun (Y92 : dw_S) =>
pw_ck (((c + 1) + 1) ≤ 300 ∧ ((s + 4) + 16) ≤ 2600) (
dw_P_J4_init_da8c8 q91 Y92 (fun (r93 : dw_S) =>
pw_ck (dw_is r93 q91 17 ∧ ((c + 1) + 1) ≤ 300 ∧ ((s + 4) + 16) ≤ 2600) (
dw_P_J4_append_15ec4 q91 32 r93 (fun (r94 : Nat × dw_S) =>
pw_ck (dw_is r94.2 r94.1 17 ∧ ((c + 1) + 1) ≤ 300 ∧ ((s + 4) + 16) ≤ 2600) (
dw_P_J4_append_cf468 r94.1 ((Int32.toUInt32 ((97 : Int32) + x) % 65536).toInt32) r94.2 (fun (r95 : Nat × dw_S) =>
pw_ck (dw_is r95.2 r95.1 17 ∧ (((c + 1) + 1) + 2) ≤ 300 ∧ (((s + 4) + 16) + 36) ≤ 2600) (
dw_P_J4_toString_0e30d r95.1 r95.2 (fun (r96 : Nat × dw_S) =>
pw_ck ((¬ (2 : Int32) < 0 ∧ 2 ≤ 10000) ∧ ((((c + 1) + 1) + 2) + 1) ≤ 300 ∧ ((((s + 4) + 16) + 36) + 2) ≤ 2600) (
pw_al (dw_n r96.2) (fun (q97 : Nat) => pw_lt (dw_nw r96.2 q97 20 2 (fun _ => 0) (fun _ => none)) (fun (Y98 : dw_S) =>
pw_ck (dw_is Y98 q21 13) (
pw_ck (¬ (dw_i Y98 q21 0) = 0) (
pw_ck (dw_is Y98 q97 20 ∧ tw_ok (0 : Int32) (dw_l Y98 q97) = true) (pw_lt (dw_pi Y98 q97 0 (u - u / (dw_i Y98 q21 0) * (dw_i Y98 q21 0))) (fun (Y99 : dw_S) =>
pw_ck (dw_is Y99 q21 13) (
pw_ck (¬ (dw_i Y99 q21 0) = 0) (
pw_ck (dw_is Y99 q97 20 ∧ tw_ok (1 : Int32) (dw_l Y99 q97) = true) (pw_lt (dw_pi Y99 q97 1 (u / (dw_i Y99 q21 0))) (fun (Y100 : dw_S) =>
pw_ck (((((c + 1) + 1) + 2) + 1) ≤ 300 ∧ ((((s + 4) + 16) + 36) + 2) ≤ 2600) (
dw_P_L_writeAlld n r1 r96.1 q97 Y100 (fun (r101 : dw_S) =>
pw_ck (((((c + 1) + 1) + 2) + 1) ≤ 300 ∧ ((((s + 4) + 16) + 36) + 2) ≤ 2600) (
dw_P_L_write n r1 29 r101 (fun (r102 : dw_S) =>
pw_lt (x + (1 : Int32)) (fun (v103 : Int32) =>
K (v103, r102, ((((c + 1) + 1) + 2) + 1), ((((s + 4) + 16) + 36) + 2)))))))))))))))))))))))))))))))))
def dq_riMb (n r1 r2 q21 : Nat) (v28 x : Int32) (Y : dw_S) (c s : Nat) (K : Int32 × dw_S × Nat × Nat → Prop) : Prop :=
pw_ck (dw_is Y r2 15 ∧ c ≤ 300 ∧ s ≤ 2600) (
dw_P_X15_below r2 v28 Y (fun (r84 : Int32 × dw_S) =>
pw_lt r84.1 (fun (v85 : Int32) =>
pw_lp (fun (k87 : (Int32 × Int32 × Nat × Nat) → Prop) (a86 : Int32 × Int32 × Nat × Nat) =>
pw_ck (dw_is r84.2 q21 13) (
pw_nn (dw_r r84.2 q21 2) (fun (r88 : Nat) =>
pw_ck (dw_is r84.2 r88 21 ∧ tw_ok a86.2.1 (dw_l r84.2 r88) = true) (
if (dw_i r84.2 r88 (Int32.toNatClampNeg a86.2.1)) = 0 then (pw_ck (dw_is r84.2 q21 13) (
pw_nn (dw_r r84.2 q21 4) (fun (r89 : Nat) =>
pw_ck (dw_is r84.2 r89 20 ∧ tw_ok a86.1 (dw_l r84.2 r89) = true) (pw_lt (dw_pi r84.2 r89 (Int32.toNatClampNeg a86.1) a86.2.1) (fun (Y90 : dw_S) =>
pw_ck ((a86.2.2.1 + 1) ≤ 300 ∧ (a86.2.2.2 + 4) ≤ 2600) (
pw_al (dw_n Y90) (fun (q91 : Nat) => pw_lt (dw_nw Y90 q91 17 0 (fun _ => 0) (fun _ => none)) (fun (Y92 : dw_S) =>
pw_ck (((a86.2.2.1 + 1) + 1) ≤ 300 ∧ ((a86.2.2.2 + 4) + 16) ≤ 2600) (
dw_P_J4_init_da8c8 q91 Y92 (fun (r93 : dw_S) =>
pw_ck (dw_is r93 q91 17 ∧ ((a86.2.2.1 + 1) + 1) ≤ 300 ∧ ((a86.2.2.2 + 4) + 16) ≤ 2600) (
dw_P_J4_append_15ec4 q91 32 r93 (fun (r94 : Nat × dw_S) =>
pw_ck (dw_is r94.2 r94.1 17 ∧ ((a86.2.2.1 + 1) + 1) ≤ 300 ∧ ((a86.2.2.2 + 4) + 16) ≤ 2600) (
dw_P_J4_append_cf468 r94.1 ((Int32.toUInt32 ((97 : Int32) + a86.1) % 65536).toInt32) r94.2 (fun (r95 : Nat × dw_S) =>
pw_ck (dw_is r95.2 r95.1 17 ∧ (((a86.2.2.1 + 1) + 1) + 2) ≤ 300 ∧ (((a86.2.2.2 + 4) + 16) + 36) ≤ 2600) (
dw_P_J4_toString_0e30d r95.1 r95.2 (fun (r96 : Nat × dw_S) =>
pw_ck ((¬ (2 : Int32) < 0 ∧ 2 ≤ 10000) ∧ ((((a86.2.2.1 + 1) + 1) + 2) + 1) ≤ 300 ∧ ((((a86.2.2.2 + 4) + 16) + 36) + 2) ≤ 2600) (
pw_al (dw_n r96.2) (fun (q97 : Nat) => pw_lt (dw_nw r96.2 q97 20 2 (fun _ => 0) (fun _ => none)) (fun (Y98 : dw_S) =>
pw_ck (dw_is Y98 q21 13) (
pw_ck (¬ (dw_i Y98 q21 0) = 0) (
pw_ck (dw_is Y98 q97 20 ∧ tw_ok (0 : Int32) (dw_l Y98 q97) = true) (pw_lt (dw_pi Y98 q97 0 (a86.2.1 - a86.2.1 / (dw_i Y98 q21 0) * (dw_i Y98 q21 0))) (fun (Y99 : dw_S) =>
pw_ck (dw_is Y99 q21 13) (
pw_ck (¬ (dw_i Y99 q21 0) = 0) (
pw_ck (dw_is Y99 q97 20 ∧ tw_ok (1 : Int32) (dw_l Y99 q97) = true) (pw_lt (dw_pi Y99 q97 1 (a86.2.1 / (dw_i Y99 q21 0))) (fun (Y100 : dw_S) =>
pw_ck (((((a86.2.2.1 + 1) + 1) + 2) + 1) ≤ 300 ∧ ((((a86.2.2.2 + 4) + 16) + 36) + 2) ≤ 2600) (
dw_P_L_writeAlld n r1 r96.1 q97 Y100 (fun (r101 : dw_S) =>
pw_ck (((((a86.2.2.1 + 1) + 1) + 2) + 1) ≤ 300 ∧ ((((a86.2.2.2 + 4) + 16) + 36) + 2) ≤ 2600) (
dw_P_L_write n r1 29 r101 (fun (r102 : dw_S) =>
pw_lt (a86.1 + (1 : Int32)) (fun (v103 : Int32) =>
K (v103, r102, ((((a86.2.2.1 + 1) + 1) + 2) + 1), ((((a86.2.2.2 + 4) + 16) + 36) + 2))))))))))))))))))))))))))))))))))
else (pw_ck (¬ v28 = 0) (
pw_lt ((a86.2.1 + (1 : Int32)) - (a86.2.1 + (1 : Int32)) / v28 * v28) (fun (v104 : Int32) =>
k87 (a86.1, v104, a86.2.2.1, a86.2.2.2)))))))) n (x, v85, c, s))))
def dq_riM (n r1 r2 q21 : Nat) (v28 : Int32) (Y : dw_S) (c s : Nat) (Q : Option Nat × dw_S → Prop) : Prop :=
pw_ck (dw_is Y r2 15 ∧ c ≤ 300 ∧ s ≤ 2600) (
dw_P_X15_below r2 (3 : Int32) Y (fun (r53 : Int32 × dw_S) =>
pw_lt ((1 : Int32) + r53.1) (fun (v54 : Int32) =>
pw_lt (0 : Int32) (fun (v55 : Int32) =>
pw_lp (fun (k57 : (Int32 × dw_S × Nat × Nat) → Prop) (a56 : Int32 × dw_S × Nat × Nat) =>
if v54 ≤ a56.1 then (pw_ck (dw_is a56.2.1 r2 15 ∧ a56.2.2.1 ≤ 300 ∧ a56.2.2.2 ≤ 2600) (
dw_P_X15_below r2 (2 : Int32) a56.2.1 (fun (r58 : Int32 × dw_S) =>
tw_jn (fun (a59 : dw_S × Nat × Nat) =>
pw_ck (dw_is a59.1 r2 15 ∧ a59.2.1 ≤ 300 ∧ a59.2.2 ≤ 2600) (
dw_P_X15_below r2 (4 : Int32) a59.1 (fun (r61 : Int32 × dw_S) =>
pw_lt r61.1 (fun (v62 : Int32) =>
pw_ck ((¬ v62 < 0 ∧ (Int32.toNatClampNeg v62) ≤ 10000) ∧ (a59.2.1 + 1) ≤ 300 ∧ (a59.2.2 + (Int32.toNatClampNeg v62)) ≤ 2600) (
pw_al (dw_n r61.2) (fun (q63 : Nat) => pw_lt (dw_nw r61.2 q63 24 (Int32.toNatClampNeg v62) (fun _ => 0) (fun _ => none)) (fun (Y64 : dw_S) =>
pw_ck (dw_is Y64 q21 13) (pw_lt (dw_pr Y64 q21 6 (some q63)) (fun (Y65 : dw_S) =>
pw_lt (0 : Int32) (fun (v66 : Int32) =>
pw_lp (fun (k68 : (Int32 × dw_S × Nat × Nat) → Prop) (a67 : Int32 × dw_S × Nat × Nat) =>
if v62 ≤ a67.1 then (pw_ck ((a67.2.2.1 + 1) ≤ 300 ∧ (a67.2.2.2 + 6) ≤ 2600) (
dw_P_L_loadText n r1 a67.2.1 (fun (r69 : Int32 × dw_S) =>
tw_jn (fun (a70 : Option Nat) =>
pw_ck ((a67.2.2.1 + 1) ≤ 300 ∧ (a67.2.2.2 + 6) ≤ 2600) (Q (a70, r69.2))) (fun (j71 : (Option Nat) → Prop) =>
if ¬ r69.1 = v62 then (j71 none)
else (j71 (some q21))))))
else (pw_ck (dw_is a67.2.1 q21 13) (
pw_nn (dw_r a67.2.1 q21 6) (fun (r72 : Nat) =>
pw_ck ((a67.2.2.1 + 60) ≤ 300 ∧ (a67.2.2.2 + 500) ≤ 2600) (
dw_P_L_randomClue n r1 r2 v54 a67.2.1 (fun (r73 : Nat × dw_S) =>
pw_ck (dw_is r73.2 r72 24 ∧ tw_ok a67.1 (dw_l r73.2 r72) = true ∧ ∀ v, (some r73.1) = some v → dw_is r73.2 v 12) (pw_lt (dw_pr r73.2 r72 (Int32.toNatClampNeg a67.1) (some r73.1)) (fun (Y74 : dw_S) =>
pw_lt (a67.1 + (1 : Int32)) (fun (v75 : Int32) =>
k68 (v75, Y74, (a67.2.2.1 + 60), (a67.2.2.2 + 500))))))))))) n (v66, Y65, (a59.2.1 + 1), (a59.2.2 + (Int32.toNatClampNeg v62))))))))))))) (fun (j60 : (dw_S × Nat × Nat) → Prop) =>
if ¬ r58.1 = 0 then (j60 (r58.2, a56.2.2.1, a56.2.2.2))
else (pw_ck (dw_is r58.2 q21 13) (
pw_nn (dw_r r58.2 q21 4) (fun (r76 : Nat) =>
pw_ck (dw_is r58.2 r76 20 ∧ tw_ok (0 : Int32) (dw_l r58.2 r76) = true) (
pw_ck (dw_is r58.2 q21 13) (pw_lt (dw_pi r58.2 q21 7 (dw_i r58.2 r76 0)) (fun (Y77 : dw_S) =>
pw_ck ((¬ (2 : Int32) < 0 ∧ 2 ≤ 10000) ∧ (a56.2.2.1 + 1) ≤ 300 ∧ (a56.2.2.2 + 2) ≤ 2600) (
pw_al (dw_n Y77) (fun (q78 : Nat) => pw_lt (dw_nw Y77 q78 20 2 (fun _ => 0) (fun _ => none)) (fun (Y79 : dw_S) =>
pw_ck (dw_is Y79 q21 13) (
pw_ck (dw_is Y79 q21 13) (
pw_ck (¬ (dw_i Y79 q21 0) = 0) (
pw_ck (dw_is Y79 q78 20 ∧ tw_ok (0 : Int32) (dw_l Y79 q78) = true) (pw_lt (dw_pi Y79 q78 0 ((dw_i Y79 q21 7) - (dw_i Y79 q21 7) / (dw_i Y79 q21 0) * (dw_i Y79 q21 0))) (fun (Y80 : dw_S) =>
pw_ck (dw_is Y80 q21 13) (
pw_ck (dw_is Y80 q21 13) (
pw_ck (¬ (dw_i Y80 q21 0) = 0) (
pw_ck (dw_is Y80 q78 20 ∧ tw_ok (1 : Int32) (dw_l Y80 q78) = true) (pw_lt (dw_pi Y80 q78 1 ((dw_i Y80 q21 7) / (dw_i Y80 q21 0))) (fun (Y81 : dw_S) =>
pw_ck ((a56.2.2.1 + 1) ≤ 300 ∧ (a56.2.2.2 + 2) ≤ 2600) (
dw_P_L_writeAll n r1 3 q78 Y81 (fun (r82 : dw_S) =>
pw_ck ((a56.2.2.1 + 1) ≤ 300 ∧ (a56.2.2.2 + 2) ≤ 2600) (
dw_P_L_write n r1 29 r82 (fun (r83 : dw_S) =>
j60 (r83, (a56.2.2.1 + 1), (a56.2.2.2 + 2)))))))))))))))))))))))))))))
else (pw_ck (dw_is a56.2.1 r2 15 ∧ a56.2.2.1 ≤ 300 ∧ a56.2.2.2 ≤ 2600) (
dw_P_X15_below r2 v28 a56.2.1 (fun (r84 : Int32 × dw_S) =>
pw_lt r84.1 (fun (v85 : Int32) =>
pw_lp (fun (k87 : (Int32 × Int32 × Nat × Nat) → Prop) (a86 : Int32 × Int32 × Nat × Nat) =>
pw_ck (dw_is r84.2 q21 13) (
pw_nn (dw_r r84.2 q21 2) (fun (r88 : Nat) =>
pw_ck (dw_is r84.2 r88 21 ∧ tw_ok a86.2.1 (dw_l r84.2 r88) = true) (
if (dw_i r84.2 r88 (Int32.toNatClampNeg a86.2.1)) = 0 then (pw_ck (dw_is r84.2 q21 13) (
pw_nn (dw_r r84.2 q21 4) (fun (r89 : Nat) =>
pw_ck (dw_is r84.2 r89 20 ∧ tw_ok a86.1 (dw_l r84.2 r89) = true) (pw_lt (dw_pi r84.2 r89 (Int32.toNatClampNeg a86.1) a86.2.1) (fun (Y90 : dw_S) =>
pw_ck ((a86.2.2.1 + 1) ≤ 300 ∧ (a86.2.2.2 + 4) ≤ 2600) (
pw_al (dw_n Y90) (fun (q91 : Nat) => pw_lt (dw_nw Y90 q91 17 0 (fun _ => 0) (fun _ => none)) (fun (Y92 : dw_S) =>
pw_ck (((a86.2.2.1 + 1) + 1) ≤ 300 ∧ ((a86.2.2.2 + 4) + 16) ≤ 2600) (
dw_P_J4_init_da8c8 q91 Y92 (fun (r93 : dw_S) =>
pw_ck (dw_is r93 q91 17 ∧ ((a86.2.2.1 + 1) + 1) ≤ 300 ∧ ((a86.2.2.2 + 4) + 16) ≤ 2600) (
dw_P_J4_append_15ec4 q91 32 r93 (fun (r94 : Nat × dw_S) =>
pw_ck (dw_is r94.2 r94.1 17 ∧ ((a86.2.2.1 + 1) + 1) ≤ 300 ∧ ((a86.2.2.2 + 4) + 16) ≤ 2600) (
dw_P_J4_append_cf468 r94.1 ((Int32.toUInt32 ((97 : Int32) + a86.1) % 65536).toInt32) r94.2 (fun (r95 : Nat × dw_S) =>
pw_ck (dw_is r95.2 r95.1 17 ∧ (((a86.2.2.1 + 1) + 1) + 2) ≤ 300 ∧ (((a86.2.2.2 + 4) + 16) + 36) ≤ 2600) (
dw_P_J4_toString_0e30d r95.1 r95.2 (fun (r96 : Nat × dw_S) =>
pw_ck ((¬ (2 : Int32) < 0 ∧ 2 ≤ 10000) ∧ ((((a86.2.2.1 + 1) + 1) + 2) + 1) ≤ 300 ∧ ((((a86.2.2.2 + 4) + 16) + 36) + 2) ≤ 2600) (
pw_al (dw_n r96.2) (fun (q97 : Nat) => pw_lt (dw_nw r96.2 q97 20 2 (fun _ => 0) (fun _ => none)) (fun (Y98 : dw_S) =>
pw_ck (dw_is Y98 q21 13) (
pw_ck (¬ (dw_i Y98 q21 0) = 0) (
pw_ck (dw_is Y98 q97 20 ∧ tw_ok (0 : Int32) (dw_l Y98 q97) = true) (pw_lt (dw_pi Y98 q97 0 (a86.2.1 - a86.2.1 / (dw_i Y98 q21 0) * (dw_i Y98 q21 0))) (fun (Y99 : dw_S) =>
pw_ck (dw_is Y99 q21 13) (
pw_ck (¬ (dw_i Y99 q21 0) = 0) (
pw_ck (dw_is Y99 q97 20 ∧ tw_ok (1 : Int32) (dw_l Y99 q97) = true) (pw_lt (dw_pi Y99 q97 1 (a86.2.1 / (dw_i Y99 q21 0))) (fun (Y100 : dw_S) =>
pw_ck (((((a86.2.2.1 + 1) + 1) + 2) + 1) ≤ 300 ∧ ((((a86.2.2.2 + 4) + 16) + 36) + 2) ≤ 2600) (
dw_P_L_writeAlld n r1 r96.1 q97 Y100 (fun (r101 : dw_S) =>
pw_ck (((((a86.2.2.1 + 1) + 1) + 2) + 1) ≤ 300 ∧ ((((a86.2.2.2 + 4) + 16) + 36) + 2) ≤ 2600) (
dw_P_L_write n r1 29 r101 (fun (r102 : dw_S) =>
pw_lt (a86.1 + (1 : Int32)) (fun (v103 : Int32) =>
k57 (v103, r102, ((((a86.2.2.1 + 1) + 1) + 2) + 1), ((((a86.2.2.2 + 4) + 16) + 36) + 2))))))))))))))))))))))))))))))))))
else (pw_ck (¬ v28 = 0) (
pw_lt ((a86.2.1 + (1 : Int32)) - (a86.2.1 + (1 : Int32)) / v28 * v28) (fun (v104 : Int32) =>
k87 (a86.1, v104, a86.2.2.1, a86.2.2.2)))))))) n (a56.1, v85, a56.2.2.1, a56.2.2.2)))))) n (v55, r53.2, c, s)))))
def dq_riBc (n r1 q21 q109 : Nat) (x u : Int32) (Y : dw_S) (c s : Nat) (K : Int32 × dw_S × Nat × Nat → Prop) : Prop :=
pw_ck (dw_is Y q109 20 ∧ tw_ok (4 : Int32) (dw_l Y q109) = true) (pw_lt (dw_pi Y q109 4 u) (fun (Y120 : dw_S) =>
pw_ck (dw_is Y120 q21 13) (
pw_nn (dw_r Y120 q21 5) (fun (r121 : Nat) =>
pw_ck (dw_is Y120 r121 26 ∧ tw_ok x (dw_l Y120 r121) = true ∧ dw_is Y120 q109 20) (pw_lt (dw_pr Y120 r121 (Int32.toNatClampNeg x) (some q109)) (fun (Y122 : dw_S) =>
pw_ck ((¬ (4 : Int32) < 0 ∧ 4 ≤ 10000) ∧ (c + 1) ≤ 300 ∧ (s + 4) ≤ 2600) (
pw_al (dw_n Y122) (fun (q123 : Nat) => pw_lt (dw_nw Y122 q123 20 4 (fun _ => 0) (fun _ => none)) (fun (Y124 : dw_S) =>
pw_ck (dw_is Y124 q109 20 ∧ tw_ok (0 : Int32) (dw_l Y124 q109) = true) (
pw_ck (dw_is Y124 q123 20 ∧ tw_ok (0 : Int32) (dw_l Y124 q123) = true) (pw_lt (dw_pi Y124 q123 0 (dw_i Y124 q109 0)) (fun (Y125 : dw_S) =>
pw_ck (dw_is Y125 q109 20 ∧ tw_ok (1 : Int32) (dw_l Y125 q109) = true) (
pw_ck (dw_is Y125 q123 20 ∧ tw_ok (1 : Int32) (dw_l Y125 q123) = true) (pw_lt (dw_pi Y125 q123 1 (dw_i Y125 q109 1)) (fun (Y126 : dw_S) =>
pw_ck (dw_is Y126 q109 20 ∧ tw_ok (2 : Int32) (dw_l Y126 q109) = true) (
pw_ck (dw_is Y126 q123 20 ∧ tw_ok (2 : Int32) (dw_l Y126 q123) = true) (pw_lt (dw_pi Y126 q123 2 (dw_i Y126 q109 2)) (fun (Y127 : dw_S) =>
pw_ck (dw_is Y127 q109 20 ∧ tw_ok (3 : Int32) (dw_l Y127 q109) = true) (
pw_ck (dw_is Y127 q123 20 ∧ tw_ok (3 : Int32) (dw_l Y127 q123) = true) (pw_lt (dw_pi Y127 q123 3 (dw_i Y127 q109 3)) (fun (Y128 : dw_S) =>
pw_ck ((c + 1) ≤ 300 ∧ (s + 4) ≤ 2600) (
dw_P_L_writeAll n r1 1 q123 Y128 (fun (r129 : dw_S) =>
pw_ck (dw_is r129 q109 20 ∧ tw_ok (4 : Int32) (dw_l r129 q109) = true) (
tw_jn (fun (a130 : Nat) =>
pw_ck (a130 < 33) (
pw_ck ((¬ (1 : Int32) < 0 ∧ 1 ≤ 10000) ∧ ((c + 1) + 1) ≤ 300 ∧ ((s + 4) + 1) ≤ 2600) (
pw_al (dw_n r129) (fun (q133 : Nat) => pw_lt (dw_nw r129 q133 20 1 (fun _ => 0) (fun _ => none)) (fun (Y134 : dw_S) =>
pw_ck (dw_is Y134 q109 20 ∧ tw_ok (4 : Int32) (dw_l Y134 q109) = true) (
pw_ck (((c + 1) + 1) ≤ 300 ∧ ((s + 4) + 1) ≤ 2600) (
pw_ck (dw_is Y134 q133 20 ∧ tw_ok (0 : Int32) (dw_l Y134 q133) = true) (pw_lt (dw_pi Y134 q133 0 (if 0 ≤ (dw_i Y134 q109 4) then (dw_i Y134 q109 4) else 0 - (dw_i Y134 q109 4))) (fun (Y136 : dw_S) =>
pw_ck (((c + 1) + 1) ≤ 300 ∧ ((s + 4) + 1) ≤ 2600) (
dw_P_L_writeAll n r1 a130 q133 Y136 (fun (r137 : dw_S) =>
pw_ck (((c + 1) + 1) ≤ 300 ∧ ((s + 4) + 1) ≤ 2600) (
dw_P_L_write n r1 29 r137 (fun (r138 : dw_S) =>
pw_lt (x + (1 : Int32)) (fun (v139 : Int32) =>
K (v139, r138, ((c + 1) + 1), ((s + 4) + 1)))))))))))))))) (fun (j131 : (Nat) → Prop) =>
if 0 ≤ (dw_i r129 q109 4) then (j131 31)
else (j131 30))))))))))))))))))))))))))
def dq_riBb (n r1 r2 q21 : Nat) (x : Int32) (Y : dw_S) (c s : Nat) (K : Int32 × dw_S × Nat × Nat → Prop) : Prop :=
pw_ck (dw_is Y q21 13) (
pw_ck (dw_is Y r2 15 ∧ c ≤ 300 ∧ s ≤ 2600) (
dw_P_X15_below r2 (dw_i Y q21 0) Y (fun (r105 : Int32 × dw_S) =>
pw_lt r105.1 (fun (v106 : Int32) =>
pw_ck (dw_is r105.2 q21 13) (
pw_ck (dw_is r105.2 r2 15 ∧ c ≤ 300 ∧ s ≤ 2600) (
dw_P_X15_below r2 (dw_i r105.2 q21 1) r105.2 (fun (r107 : Int32 × dw_S) =>
pw_lt r107.1 (fun (v108 : Int32) =>
pw_ck ((¬ (5 : Int32) < 0 ∧ 5 ≤ 10000) ∧ (c + 1) ≤ 300 ∧ (s + 5) ≤ 2600) (
pw_al (dw_n r107.2) (fun (q109 : Nat) => pw_lt (dw_nw r107.2 q109 20 5 (fun _ => 0) (fun _ => none)) (fun (Y110 : dw_S) =>
pw_ck (dw_is Y110 q109 20 ∧ tw_ok (0 : Int32) (dw_l Y110 q109) = true) (pw_lt (dw_pi Y110 q109 0 v106) (fun (Y111 : dw_S) =>
pw_ck (dw_is Y111 q109 20 ∧ tw_ok (1 : Int32) (dw_l Y111 q109) = true) (pw_lt (dw_pi Y111 q109 1 v108) (fun (Y112 : dw_S) =>
pw_ck (dw_is Y112 q21 13) (
pw_ck (dw_is Y112 r2 15 ∧ (c + 1) ≤ 300 ∧ (s + 5) ≤ 2600) (
dw_P_X15_below r2 ((dw_i Y112 q21 0) - v106) Y112 (fun (r113 : Int32 × dw_S) =>
pw_ck (dw_is r113.2 q109 20 ∧ tw_ok (2 : Int32) (dw_l r113.2 q109) = true) (pw_lt (dw_pi r113.2 q109 2 (v106 + r113.1)) (fun (Y114 : dw_S) =>
pw_ck (dw_is Y114 q21 13) (
pw_ck (dw_is Y114 r2 15 ∧ (c + 1) ≤ 300 ∧ (s + 5) ≤ 2600) (
dw_P_X15_below r2 ((dw_i Y114 q21 1) - v108) Y114 (fun (r115 : Int32 × dw_S) =>
pw_ck (dw_is r115.2 q109 20 ∧ tw_ok (3 : Int32) (dw_l r115.2 q109) = true) (pw_lt (dw_pi r115.2 q109 3 (v108 + r115.1)) (fun (Y116 : dw_S) =>
pw_ck (dw_is Y116 r2 15 ∧ (c + 1) ≤ 300 ∧ (s + 5) ≤ 2600) (
dw_P_X15_below r2 (2 : Int32) Y116 (fun (r117 : Int32 × dw_S) =>
tw_jn (fun (a118 : Int32 × dw_S) =>
pw_ck (dw_is a118.2 q109 20 ∧ tw_ok (4 : Int32) (dw_l a118.2 q109) = true) (pw_lt (dw_pi a118.2 q109 4 a118.1) (fun (Y120 : dw_S) =>
pw_ck (dw_is Y120 q21 13) (
pw_nn (dw_r Y120 q21 5) (fun (r121 : Nat) =>
pw_ck (dw_is Y120 r121 26 ∧ tw_ok x (dw_l Y120 r121) = true ∧ dw_is Y120 q109 20) (pw_lt (dw_pr Y120 r121 (Int32.toNatClampNeg x) (some q109)) (fun (Y122 : dw_S) =>
pw_ck ((¬ (4 : Int32) < 0 ∧ 4 ≤ 10000) ∧ ((c + 1) + 1) ≤ 300 ∧ ((s + 5) + 4) ≤ 2600) (
pw_al (dw_n Y122) (fun (q123 : Nat) => pw_lt (dw_nw Y122 q123 20 4 (fun _ => 0) (fun _ => none)) (fun (Y124 : dw_S) =>
pw_ck (dw_is Y124 q109 20 ∧ tw_ok (0 : Int32) (dw_l Y124 q109) = true) (
pw_ck (dw_is Y124 q123 20 ∧ tw_ok (0 : Int32) (dw_l Y124 q123) = true) (pw_lt (dw_pi Y124 q123 0 (dw_i Y124 q109 0)) (fun (Y125 : dw_S) =>
pw_ck (dw_is Y125 q109 20 ∧ tw_ok (1 : Int32) (dw_l Y125 q109) = true) (
pw_ck (dw_is Y125 q123 20 ∧ tw_ok (1 : Int32) (dw_l Y125 q123) = true) (pw_lt (dw_pi Y125 q123 1 (dw_i Y125 q109 1)) (fun (Y126 : dw_S) =>
pw_ck (dw_is Y126 q109 20 ∧ tw_ok (2 : Int32) (dw_l Y126 q109) = true) (
pw_ck (dw_is Y126 q123 20 ∧ tw_ok (2 : Int32) (dw_l Y126 q123) = true) (pw_lt (dw_pi Y126 q123 2 (dw_i Y126 q109 2)) (fun (Y127 : dw_S) =>
pw_ck (dw_is Y127 q109 20 ∧ tw_ok (3 : Int32) (dw_l Y127 q109) = true) (
pw_ck (dw_is Y127 q123 20 ∧ tw_ok (3 : Int32) (dw_l Y127 q123) = true) (pw_lt (dw_pi Y127 q123 3 (dw_i Y127 q109 3)) (fun (Y128 : dw_S) =>
pw_ck (((c + 1) + 1) ≤ 300 ∧ ((s + 5) + 4) ≤ 2600) (
dw_P_L_writeAll n r1 1 q123 Y128 (fun (r129 : dw_S) =>
pw_ck (dw_is r129 q109 20 ∧ tw_ok (4 : Int32) (dw_l r129 q109) = true) (
tw_jn (fun (a130 : Nat) =>
pw_ck (a130 < 33) (
pw_ck ((¬ (1 : Int32) < 0 ∧ 1 ≤ 10000) ∧ (((c + 1) + 1) + 1) ≤ 300 ∧ (((s + 5) + 4) + 1) ≤ 2600) (
pw_al (dw_n r129) (fun (q133 : Nat) => pw_lt (dw_nw r129 q133 20 1 (fun _ => 0) (fun _ => none)) (fun (Y134 : dw_S) =>
pw_ck (dw_is Y134 q109 20 ∧ tw_ok (4 : Int32) (dw_l Y134 q109) = true) (
pw_ck ((((c + 1) + 1) + 1) ≤ 300 ∧ (((s + 5) + 4) + 1) ≤ 2600) (
pw_ck (dw_is Y134 q133 20 ∧ tw_ok (0 : Int32) (dw_l Y134 q133) = true) (pw_lt (dw_pi Y134 q133 0 (if 0 ≤ (dw_i Y134 q109 4) then (dw_i Y134 q109 4) else 0 - (dw_i Y134 q109 4))) (fun (Y136 : dw_S) =>
pw_ck ((((c + 1) + 1) + 1) ≤ 300 ∧ (((s + 5) + 4) + 1) ≤ 2600) (
dw_P_L_writeAll n r1 a130 q133 Y136 (fun (r137 : dw_S) =>
pw_ck ((((c + 1) + 1) + 1) ≤ 300 ∧ (((s + 5) + 4) + 1) ≤ 2600) (
dw_P_L_write n r1 29 r137 (fun (r138 : dw_S) =>
pw_lt (x + (1 : Int32)) (fun (v139 : Int32) =>
K (v139, r138, (((c + 1) + 1) + 1), (((s + 5) + 4) + 1)))))))))))))))) (fun (j131 : (Nat) → Prop) =>
if 0 ≤ (dw_i r129 q109 4) then (j131 31)
else (j131 30))))))))))))))))))))))))))) (fun (j119 : (Int32 × dw_S) → Prop) =>
if ¬ r117.1 = 0 then (pw_ck (dw_is r117.2 r2 15 ∧ (c + 1) ≤ 300 ∧ (s + 5) ≤ 2600) (
dw_P_X15_below r2 (3 : Int32) r117.2 (fun (r140 : Int32 × dw_S) =>
j119 (((-1 : Int32) - r140.1), r140.2))))
else (pw_ck (dw_is r117.2 r2 15 ∧ (c + 1) ≤ 300 ∧ (s + 5) ≤ 2600) (
dw_P_X15_below r2 (3 : Int32) r117.2 (fun (r141 : Int32 × dw_S) =>
j119 (((1 : Int32) + r141.1), r141.2))))))))))))))))))))))))))))))))
def dq_riB (n r1 r2 q21 : Nat) (v28 : Int32) (Y : dw_S) (c s : Nat) (Q : Option Nat × dw_S → Prop) : Prop :=
pw_ck (dw_is Y r2 15 ∧ c ≤ 300 ∧ s ≤ 2600) (
dw_P_X15_below r2 (3 : Int32) Y (fun (r45 : Int32 × dw_S) =>
pw_lt r45.1 (fun (v46 : Int32) =>
pw_ck ((¬ v46 < 0 ∧ (Int32.toNatClampNeg v46) ≤ 10000) ∧ (c + 1) ≤ 300 ∧ (s + (Int32.toNatClampNeg v46)) ≤ 2600) (
pw_al (dw_n r45.2) (fun (q47 : Nat) => pw_lt (dw_nw r45.2 q47 26 (Int32.toNatClampNeg v46) (fun _ => 0) (fun _ => none)) (fun (Y48 : dw_S) =>
pw_ck (dw_is Y48 q21 13) (pw_lt (dw_pr Y48 q21 5 (some q47)) (fun (Y49 : dw_S) =>
pw_lt (0 : Int32) (fun (v50 : Int32) =>
pw_lp (fun (k52 : (Int32 × dw_S × Nat × Nat) → Prop) (a51 : Int32 × dw_S × Nat × Nat) =>
if v46 ≤ a51.1 then (pw_ck (dw_is a51.2.1 r2 15 ∧ a51.2.2.1 ≤ 300 ∧ a51.2.2.2 ≤ 2600) (
dw_P_X15_below r2 (3 : Int32) a51.2.1 (fun (r53 : Int32 × dw_S) =>
pw_lt ((1 : Int32) + r53.1) (fun (v54 : Int32) =>
pw_lt (0 : Int32) (fun (v55 : Int32) =>
pw_lp (fun (k57 : (Int32 × dw_S × Nat × Nat) → Prop) (a56 : Int32 × dw_S × Nat × Nat) =>
if v54 ≤ a56.1 then (pw_ck (dw_is a56.2.1 r2 15 ∧ a56.2.2.1 ≤ 300 ∧ a56.2.2.2 ≤ 2600) (
dw_P_X15_below r2 (2 : Int32) a56.2.1 (fun (r58 : Int32 × dw_S) =>
tw_jn (fun (a59 : dw_S × Nat × Nat) =>
pw_ck (dw_is a59.1 r2 15 ∧ a59.2.1 ≤ 300 ∧ a59.2.2 ≤ 2600) (
dw_P_X15_below r2 (4 : Int32) a59.1 (fun (r61 : Int32 × dw_S) =>
pw_lt r61.1 (fun (v62 : Int32) =>
pw_ck ((¬ v62 < 0 ∧ (Int32.toNatClampNeg v62) ≤ 10000) ∧ (a59.2.1 + 1) ≤ 300 ∧ (a59.2.2 + (Int32.toNatClampNeg v62)) ≤ 2600) (
pw_al (dw_n r61.2) (fun (q63 : Nat) => pw_lt (dw_nw r61.2 q63 24 (Int32.toNatClampNeg v62) (fun _ => 0) (fun _ => none)) (fun (Y64 : dw_S) =>
pw_ck (dw_is Y64 q21 13) (pw_lt (dw_pr Y64 q21 6 (some q63)) (fun (Y65 : dw_S) =>
pw_lt (0 : Int32) (fun (v66 : Int32) =>
pw_lp (fun (k68 : (Int32 × dw_S × Nat × Nat) → Prop) (a67 : Int32 × dw_S × Nat × Nat) =>
if v62 ≤ a67.1 then (pw_ck ((a67.2.2.1 + 1) ≤ 300 ∧ (a67.2.2.2 + 6) ≤ 2600) (
dw_P_L_loadText n r1 a67.2.1 (fun (r69 : Int32 × dw_S) =>
tw_jn (fun (a70 : Option Nat) =>
pw_ck ((a67.2.2.1 + 1) ≤ 300 ∧ (a67.2.2.2 + 6) ≤ 2600) (Q (a70, r69.2))) (fun (j71 : (Option Nat) → Prop) =>
if ¬ r69.1 = v62 then (j71 none)
else (j71 (some q21))))))
else (pw_ck (dw_is a67.2.1 q21 13) (
pw_nn (dw_r a67.2.1 q21 6) (fun (r72 : Nat) =>
pw_ck ((a67.2.2.1 + 60) ≤ 300 ∧ (a67.2.2.2 + 500) ≤ 2600) (
dw_P_L_randomClue n r1 r2 v54 a67.2.1 (fun (r73 : Nat × dw_S) =>
pw_ck (dw_is r73.2 r72 24 ∧ tw_ok a67.1 (dw_l r73.2 r72) = true ∧ ∀ v, (some r73.1) = some v → dw_is r73.2 v 12) (pw_lt (dw_pr r73.2 r72 (Int32.toNatClampNeg a67.1) (some r73.1)) (fun (Y74 : dw_S) =>
pw_lt (a67.1 + (1 : Int32)) (fun (v75 : Int32) =>
k68 (v75, Y74, (a67.2.2.1 + 60), (a67.2.2.2 + 500))))))))))) n (v66, Y65, (a59.2.1 + 1), (a59.2.2 + (Int32.toNatClampNeg v62))))))))))))) (fun (j60 : (dw_S × Nat × Nat) → Prop) =>
if ¬ r58.1 = 0 then (j60 (r58.2, a56.2.2.1, a56.2.2.2))
else (pw_ck (dw_is r58.2 q21 13) (
pw_nn (dw_r r58.2 q21 4) (fun (r76 : Nat) =>
pw_ck (dw_is r58.2 r76 20 ∧ tw_ok (0 : Int32) (dw_l r58.2 r76) = true) (
pw_ck (dw_is r58.2 q21 13) (pw_lt (dw_pi r58.2 q21 7 (dw_i r58.2 r76 0)) (fun (Y77 : dw_S) =>
pw_ck ((¬ (2 : Int32) < 0 ∧ 2 ≤ 10000) ∧ (a56.2.2.1 + 1) ≤ 300 ∧ (a56.2.2.2 + 2) ≤ 2600) (
pw_al (dw_n Y77) (fun (q78 : Nat) => pw_lt (dw_nw Y77 q78 20 2 (fun _ => 0) (fun _ => none)) (fun (Y79 : dw_S) =>
pw_ck (dw_is Y79 q21 13) (
pw_ck (dw_is Y79 q21 13) (
pw_ck (¬ (dw_i Y79 q21 0) = 0) (
pw_ck (dw_is Y79 q78 20 ∧ tw_ok (0 : Int32) (dw_l Y79 q78) = true) (pw_lt (dw_pi Y79 q78 0 ((dw_i Y79 q21 7) - (dw_i Y79 q21 7) / (dw_i Y79 q21 0) * (dw_i Y79 q21 0))) (fun (Y80 : dw_S) =>
pw_ck (dw_is Y80 q21 13) (
pw_ck (dw_is Y80 q21 13) (
pw_ck (¬ (dw_i Y80 q21 0) = 0) (
pw_ck (dw_is Y80 q78 20 ∧ tw_ok (1 : Int32) (dw_l Y80 q78) = true) (pw_lt (dw_pi Y80 q78 1 ((dw_i Y80 q21 7) / (dw_i Y80 q21 0))) (fun (Y81 : dw_S) =>
pw_ck ((a56.2.2.1 + 1) ≤ 300 ∧ (a56.2.2.2 + 2) ≤ 2600) (
dw_P_L_writeAll n r1 3 q78 Y81 (fun (r82 : dw_S) =>
pw_ck ((a56.2.2.1 + 1) ≤ 300 ∧ (a56.2.2.2 + 2) ≤ 2600) (
dw_P_L_write n r1 29 r82 (fun (r83 : dw_S) =>
j60 (r83, (a56.2.2.1 + 1), (a56.2.2.2 + 2)))))))))))))))))))))))))))))
else (pw_ck (dw_is a56.2.1 r2 15 ∧ a56.2.2.1 ≤ 300 ∧ a56.2.2.2 ≤ 2600) (
dw_P_X15_below r2 v28 a56.2.1 (fun (r84 : Int32 × dw_S) =>
pw_lt r84.1 (fun (v85 : Int32) =>
pw_lp (fun (k87 : (Int32 × Int32 × Nat × Nat) → Prop) (a86 : Int32 × Int32 × Nat × Nat) =>
pw_ck (dw_is r84.2 q21 13) (
pw_nn (dw_r r84.2 q21 2) (fun (r88 : Nat) =>
pw_ck (dw_is r84.2 r88 21 ∧ tw_ok a86.2.1 (dw_l r84.2 r88) = true) (
if (dw_i r84.2 r88 (Int32.toNatClampNeg a86.2.1)) = 0 then (pw_ck (dw_is r84.2 q21 13) (
pw_nn (dw_r r84.2 q21 4) (fun (r89 : Nat) =>
pw_ck (dw_is r84.2 r89 20 ∧ tw_ok a86.1 (dw_l r84.2 r89) = true) (pw_lt (dw_pi r84.2 r89 (Int32.toNatClampNeg a86.1) a86.2.1) (fun (Y90 : dw_S) =>
pw_ck ((a86.2.2.1 + 1) ≤ 300 ∧ (a86.2.2.2 + 4) ≤ 2600) (
pw_al (dw_n Y90) (fun (q91 : Nat) => pw_lt (dw_nw Y90 q91 17 0 (fun _ => 0) (fun _ => none)) (fun (Y92 : dw_S) =>
pw_ck (((a86.2.2.1 + 1) + 1) ≤ 300 ∧ ((a86.2.2.2 + 4) + 16) ≤ 2600) (
dw_P_J4_init_da8c8 q91 Y92 (fun (r93 : dw_S) =>
pw_ck (dw_is r93 q91 17 ∧ ((a86.2.2.1 + 1) + 1) ≤ 300 ∧ ((a86.2.2.2 + 4) + 16) ≤ 2600) (
dw_P_J4_append_15ec4 q91 32 r93 (fun (r94 : Nat × dw_S) =>
pw_ck (dw_is r94.2 r94.1 17 ∧ ((a86.2.2.1 + 1) + 1) ≤ 300 ∧ ((a86.2.2.2 + 4) + 16) ≤ 2600) (
dw_P_J4_append_cf468 r94.1 ((Int32.toUInt32 ((97 : Int32) + a86.1) % 65536).toInt32) r94.2 (fun (r95 : Nat × dw_S) =>
pw_ck (dw_is r95.2 r95.1 17 ∧ (((a86.2.2.1 + 1) + 1) + 2) ≤ 300 ∧ (((a86.2.2.2 + 4) + 16) + 36) ≤ 2600) (
dw_P_J4_toString_0e30d r95.1 r95.2 (fun (r96 : Nat × dw_S) =>
pw_ck ((¬ (2 : Int32) < 0 ∧ 2 ≤ 10000) ∧ ((((a86.2.2.1 + 1) + 1) + 2) + 1) ≤ 300 ∧ ((((a86.2.2.2 + 4) + 16) + 36) + 2) ≤ 2600) (
pw_al (dw_n r96.2) (fun (q97 : Nat) => pw_lt (dw_nw r96.2 q97 20 2 (fun _ => 0) (fun _ => none)) (fun (Y98 : dw_S) =>
pw_ck (dw_is Y98 q21 13) (
pw_ck (¬ (dw_i Y98 q21 0) = 0) (
pw_ck (dw_is Y98 q97 20 ∧ tw_ok (0 : Int32) (dw_l Y98 q97) = true) (pw_lt (dw_pi Y98 q97 0 (a86.2.1 - a86.2.1 / (dw_i Y98 q21 0) * (dw_i Y98 q21 0))) (fun (Y99 : dw_S) =>
pw_ck (dw_is Y99 q21 13) (
pw_ck (¬ (dw_i Y99 q21 0) = 0) (
pw_ck (dw_is Y99 q97 20 ∧ tw_ok (1 : Int32) (dw_l Y99 q97) = true) (pw_lt (dw_pi Y99 q97 1 (a86.2.1 / (dw_i Y99 q21 0))) (fun (Y100 : dw_S) =>
pw_ck (((((a86.2.2.1 + 1) + 1) + 2) + 1) ≤ 300 ∧ ((((a86.2.2.2 + 4) + 16) + 36) + 2) ≤ 2600) (
dw_P_L_writeAlld n r1 r96.1 q97 Y100 (fun (r101 : dw_S) =>
pw_ck (((((a86.2.2.1 + 1) + 1) + 2) + 1) ≤ 300 ∧ ((((a86.2.2.2 + 4) + 16) + 36) + 2) ≤ 2600) (
dw_P_L_write n r1 29 r101 (fun (r102 : dw_S) =>
pw_lt (a86.1 + (1 : Int32)) (fun (v103 : Int32) =>
k57 (v103, r102, ((((a86.2.2.1 + 1) + 1) + 2) + 1), ((((a86.2.2.2 + 4) + 16) + 36) + 2))))))))))))))))))))))))))))))))))
else (pw_ck (¬ v28 = 0) (
pw_lt ((a86.2.1 + (1 : Int32)) - (a86.2.1 + (1 : Int32)) / v28 * v28) (fun (v104 : Int32) =>
k87 (a86.1, v104, a86.2.2.1, a86.2.2.2)))))))) n (a56.1, v85, a56.2.2.1, a56.2.2.2)))))) n (v55, r53.2, a51.2.2.1, a51.2.2.2))))))
else (pw_ck (dw_is a51.2.1 q21 13) (
pw_ck (dw_is a51.2.1 r2 15 ∧ a51.2.2.1 ≤ 300 ∧ a51.2.2.2 ≤ 2600) (
dw_P_X15_below r2 (dw_i a51.2.1 q21 0) a51.2.1 (fun (r105 : Int32 × dw_S) =>
pw_lt r105.1 (fun (v106 : Int32) =>
pw_ck (dw_is r105.2 q21 13) (
pw_ck (dw_is r105.2 r2 15 ∧ a51.2.2.1 ≤ 300 ∧ a51.2.2.2 ≤ 2600) (
dw_P_X15_below r2 (dw_i r105.2 q21 1) r105.2 (fun (r107 : Int32 × dw_S) =>
pw_lt r107.1 (fun (v108 : Int32) =>
pw_ck ((¬ (5 : Int32) < 0 ∧ 5 ≤ 10000) ∧ (a51.2.2.1 + 1) ≤ 300 ∧ (a51.2.2.2 + 5) ≤ 2600) (
pw_al (dw_n r107.2) (fun (q109 : Nat) => pw_lt (dw_nw r107.2 q109 20 5 (fun _ => 0) (fun _ => none)) (fun (Y110 : dw_S) =>
pw_ck (dw_is Y110 q109 20 ∧ tw_ok (0 : Int32) (dw_l Y110 q109) = true) (pw_lt (dw_pi Y110 q109 0 v106) (fun (Y111 : dw_S) =>
pw_ck (dw_is Y111 q109 20 ∧ tw_ok (1 : Int32) (dw_l Y111 q109) = true) (pw_lt (dw_pi Y111 q109 1 v108) (fun (Y112 : dw_S) =>
pw_ck (dw_is Y112 q21 13) (
pw_ck (dw_is Y112 r2 15 ∧ (a51.2.2.1 + 1) ≤ 300 ∧ (a51.2.2.2 + 5) ≤ 2600) (
dw_P_X15_below r2 ((dw_i Y112 q21 0) - v106) Y112 (fun (r113 : Int32 × dw_S) =>
pw_ck (dw_is r113.2 q109 20 ∧ tw_ok (2 : Int32) (dw_l r113.2 q109) = true) (pw_lt (dw_pi r113.2 q109 2 (v106 + r113.1)) (fun (Y114 : dw_S) =>
pw_ck (dw_is Y114 q21 13) (
pw_ck (dw_is Y114 r2 15 ∧ (a51.2.2.1 + 1) ≤ 300 ∧ (a51.2.2.2 + 5) ≤ 2600) (
dw_P_X15_below r2 ((dw_i Y114 q21 1) - v108) Y114 (fun (r115 : Int32 × dw_S) =>
pw_ck (dw_is r115.2 q109 20 ∧ tw_ok (3 : Int32) (dw_l r115.2 q109) = true) (pw_lt (dw_pi r115.2 q109 3 (v108 + r115.1)) (fun (Y116 : dw_S) =>
pw_ck (dw_is Y116 r2 15 ∧ (a51.2.2.1 + 1) ≤ 300 ∧ (a51.2.2.2 + 5) ≤ 2600) (
dw_P_X15_below r2 (2 : Int32) Y116 (fun (r117 : Int32 × dw_S) =>
tw_jn (fun (a118 : Int32 × dw_S) =>
pw_ck (dw_is a118.2 q109 20 ∧ tw_ok (4 : Int32) (dw_l a118.2 q109) = true) (pw_lt (dw_pi a118.2 q109 4 a118.1) (fun (Y120 : dw_S) =>
pw_ck (dw_is Y120 q21 13) (
pw_nn (dw_r Y120 q21 5) (fun (r121 : Nat) =>
pw_ck (dw_is Y120 r121 26 ∧ tw_ok a51.1 (dw_l Y120 r121) = true ∧ dw_is Y120 q109 20) (pw_lt (dw_pr Y120 r121 (Int32.toNatClampNeg a51.1) (some q109)) (fun (Y122 : dw_S) =>
pw_ck ((¬ (4 : Int32) < 0 ∧ 4 ≤ 10000) ∧ ((a51.2.2.1 + 1) + 1) ≤ 300 ∧ ((a51.2.2.2 + 5) + 4) ≤ 2600) (
pw_al (dw_n Y122) (fun (q123 : Nat) => pw_lt (dw_nw Y122 q123 20 4 (fun _ => 0) (fun _ => none)) (fun (Y124 : dw_S) =>
pw_ck (dw_is Y124 q109 20 ∧ tw_ok (0 : Int32) (dw_l Y124 q109) = true) (
pw_ck (dw_is Y124 q123 20 ∧ tw_ok (0 : Int32) (dw_l Y124 q123) = true) (pw_lt (dw_pi Y124 q123 0 (dw_i Y124 q109 0)) (fun (Y125 : dw_S) =>
pw_ck (dw_is Y125 q109 20 ∧ tw_ok (1 : Int32) (dw_l Y125 q109) = true) (
pw_ck (dw_is Y125 q123 20 ∧ tw_ok (1 : Int32) (dw_l Y125 q123) = true) (pw_lt (dw_pi Y125 q123 1 (dw_i Y125 q109 1)) (fun (Y126 : dw_S) =>
pw_ck (dw_is Y126 q109 20 ∧ tw_ok (2 : Int32) (dw_l Y126 q109) = true) (
pw_ck (dw_is Y126 q123 20 ∧ tw_ok (2 : Int32) (dw_l Y126 q123) = true) (pw_lt (dw_pi Y126 q123 2 (dw_i Y126 q109 2)) (fun (Y127 : dw_S) =>
pw_ck (dw_is Y127 q109 20 ∧ tw_ok (3 : Int32) (dw_l Y127 q109) = true) (
pw_ck (dw_is Y127 q123 20 ∧ tw_ok (3 : Int32) (dw_l Y127 q123) = true) (pw_lt (dw_pi Y127 q123 3 (dw_i Y127 q109 3)) (fun (Y128 : dw_S) =>
pw_ck (((a51.2.2.1 + 1) + 1) ≤ 300 ∧ ((a51.2.2.2 + 5) + 4) ≤ 2600) (
dw_P_L_writeAll n r1 1 q123 Y128 (fun (r129 : dw_S) =>
pw_ck (dw_is r129 q109 20 ∧ tw_ok (4 : Int32) (dw_l r129 q109) = true) (
tw_jn (fun (a130 : Nat) =>
pw_ck (a130 < 33) (
pw_ck ((¬ (1 : Int32) < 0 ∧ 1 ≤ 10000) ∧ (((a51.2.2.1 + 1) + 1) + 1) ≤ 300 ∧ (((a51.2.2.2 + 5) + 4) + 1) ≤ 2600) (
pw_al (dw_n r129) (fun (q133 : Nat) => pw_lt (dw_nw r129 q133 20 1 (fun _ => 0) (fun _ => none)) (fun (Y134 : dw_S) =>
pw_ck (dw_is Y134 q109 20 ∧ tw_ok (4 : Int32) (dw_l Y134 q109) = true) (
pw_ck ((((a51.2.2.1 + 1) + 1) + 1) ≤ 300 ∧ (((a51.2.2.2 + 5) + 4) + 1) ≤ 2600) (
pw_ck (dw_is Y134 q133 20 ∧ tw_ok (0 : Int32) (dw_l Y134 q133) = true) (pw_lt (dw_pi Y134 q133 0 (if 0 ≤ (dw_i Y134 q109 4) then (dw_i Y134 q109 4) else 0 - (dw_i Y134 q109 4))) (fun (Y136 : dw_S) =>
pw_ck ((((a51.2.2.1 + 1) + 1) + 1) ≤ 300 ∧ (((a51.2.2.2 + 5) + 4) + 1) ≤ 2600) (
dw_P_L_writeAll n r1 a130 q133 Y136 (fun (r137 : dw_S) =>
pw_ck ((((a51.2.2.1 + 1) + 1) + 1) ≤ 300 ∧ (((a51.2.2.2 + 5) + 4) + 1) ≤ 2600) (
dw_P_L_write n r1 29 r137 (fun (r138 : dw_S) =>
pw_lt (a51.1 + (1 : Int32)) (fun (v139 : Int32) =>
k52 (v139, r138, (((a51.2.2.1 + 1) + 1) + 1), (((a51.2.2.2 + 5) + 4) + 1)))))))))))))))) (fun (j131 : (Nat) → Prop) =>
if 0 ≤ (dw_i r129 q109 4) then (j131 31)
else (j131 30))))))))))))))))))))))))))) (fun (j119 : (Int32 × dw_S) → Prop) =>
if ¬ r117.1 = 0 then (pw_ck (dw_is r117.2 r2 15 ∧ (a51.2.2.1 + 1) ≤ 300 ∧ (a51.2.2.2 + 5) ≤ 2600) (
dw_P_X15_below r2 (3 : Int32) r117.2 (fun (r140 : Int32 × dw_S) =>
j119 (((-1 : Int32) - r140.1), r140.2))))
else (pw_ck (dw_is r117.2 r2 15 ∧ (a51.2.2.1 + 1) ≤ 300 ∧ (a51.2.2.2 + 5) ≤ 2600) (
dw_P_X15_below r2 (3 : Int32) r117.2 (fun (r141 : Int32 × dw_S) =>
j119 (((1 : Int32) + r141.1), r141.2)))))))))))))))))))))))))))))))))) n (v50, Y49, (c + 1), (s + (Int32.toNatClampNeg v46))))))))))))
def dq_riWb (n r1 r2 q21 : Nat) (v28 x : Int32) (Y : dw_S) (c s : Nat) (K : Int32 × dw_S × Nat × Nat → Prop) : Prop :=
pw_ck (dw_is Y r2 15 ∧ c ≤ 300 ∧ s ≤ 2600) (
dw_P_X15_below r2 (v28 - (1 : Int32)) Y (fun (r142 : Int32 × dw_S) =>
pw_lt ((1 : Int32) + r142.1) (fun (v143 : Int32) =>
pw_ck (dw_is r142.2 q21 13) (
pw_nn (dw_r r142.2 q21 2) (fun (r144 : Nat) =>
pw_ck (dw_is r142.2 r144 21 ∧ tw_ok v143 (dw_l r142.2 r144) = true) (pw_lt (dw_pi r142.2 r144 (Int32.toNatClampNeg v143) (vp_nar .boolean (1 : Int32))) (fun (Y145 : dw_S) =>
pw_ck ((¬ (4 : Int32) < 0 ∧ 4 ≤ 10000) ∧ (c + 1) ≤ 300 ∧ (s + 4) ≤ 2600) (
pw_al (dw_n Y145) (fun (q146 : Nat) => pw_lt (dw_nw Y145 q146 20 4 (fun _ => 0) (fun _ => none)) (fun (Y147 : dw_S) =>
pw_ck (dw_is Y147 q21 13) (
pw_ck (¬ (dw_i Y147 q21 0) = 0) (
pw_ck (dw_is Y147 q146 20 ∧ tw_ok (0 : Int32) (dw_l Y147 q146) = true) (pw_lt (dw_pi Y147 q146 0 (v143 - v143 / (dw_i Y147 q21 0) * (dw_i Y147 q21 0))) (fun (Y148 : dw_S) =>
pw_ck (dw_is Y148 q21 13) (
pw_ck (¬ (dw_i Y148 q21 0) = 0) (
pw_ck (dw_is Y148 q146 20 ∧ tw_ok (1 : Int32) (dw_l Y148 q146) = true) (pw_lt (dw_pi Y148 q146 1 (v143 / (dw_i Y148 q21 0))) (fun (Y149 : dw_S) =>
pw_ck (dw_is Y149 q21 13) (
pw_ck (¬ (dw_i Y149 q21 0) = 0) (
pw_ck (dw_is Y149 q146 20 ∧ tw_ok (2 : Int32) (dw_l Y149 q146) = true) (pw_lt (dw_pi Y149 q146 2 (v143 - v143 / (dw_i Y149 q21 0) * (dw_i Y149 q21 0))) (fun (Y150 : dw_S) =>
pw_ck (dw_is Y150 q21 13) (
pw_ck (¬ (dw_i Y150 q21 0) = 0) (
pw_ck (dw_is Y150 q146 20 ∧ tw_ok (3 : Int32) (dw_l Y150 q146) = true) (pw_lt (dw_pi Y150 q146 3 (v143 / (dw_i Y150 q21 0))) (fun (Y151 : dw_S) =>
pw_ck ((c + 1) ≤ 300 ∧ (s + 4) ≤ 2600) (
dw_P_L_writeAll n r1 0 q146 Y151 (fun (r152 : dw_S) =>
pw_ck ((c + 1) ≤ 300 ∧ (s + 4) ≤ 2600) (
dw_P_L_write n r1 29 r152 (fun (r153 : dw_S) =>
pw_lt (x + (-1 : Int32)) (fun (v154 : Int32) =>
K (v154, r153, (c + 1), (s + 4)))))))))))))))))))))))))))))))))
section DQRA
variable {Y Y0 Y' : dw_S} {th : Nat} {ι : Nat → Nat} {a a' A : Nat → Int32} {w h NB nb NC nc NB0 NC0 n c m x bf r q i : Nat}
/-- the row of the island in the making: its team is cell 0 until it is told -/
def dq_aT (A : Nat → Int32) : Nat → Int32 := upd A 4 (if A 4 = -1 then 0 else A 4)
theorem dq_aT_n {j : Nat} (h : j ≠ 4) : dq_aT A j = A j := pu_upd_n h
theorem dq_aT_4 : dq_aT A 4 = if A 4 = -1 then 0 else A 4 := pu_upd_s
theorem dq_g0 {p : Nat → Bool} (h0 : p 0 = true) : ∀ m, 0 < m → pu_g p m 0 = 0
  | 0, h => absurd h (Nat.lt_irrefl _)
  | 1, _ => by rw [dq_g_S]; rw [if_pos ⟨h0, rfl⟩]
  | m + 2, _ => by
    rw [dq_g_S, if_neg (fun z => ((pu_sum0 (g := p) (m + 1)).2.mp z.2) ⟨0, by omega, h0⟩)]
    exact dq_g0 h0 (m + 1) (by omega)
theorem dq_aE_aT (h0 : pu_land A 0 = true) (hm : 0 < w * h) : pu_aE A w h = dq_aT A := by
  unfold pu_aE dq_aT pu_fl
  by_cases e : A 4 = -1
  · rw [if_pos e, if_pos e, dq_g0 h0 _ hm]; rfl
  · rw [if_neg e, if_neg e]
    funext j
    by_cases ej : j = 4
    · rw [ej, pu_upd_s]
    · rw [pu_upd_n ej]
theorem dq_inA1 {c' : Nat} : pu_inA w (c % w) (c / w) (c % w) (c / w) c' = decide (c' = c) := by
  unfold pu_inA
  by_cases e : c' = c
  · subst e
    rw [decide_eq_true rfl, decide_eq_true ⟨Nat.le_refl _, Nat.le_refl _, Nat.le_refl _, Nat.le_refl _⟩]
  · rw [decide_eq_false e, decide_eq_false]
    intro z
    apply e
    have h1 : c' / w = c / w := by omega
    have h2 : c' % w = c % w := by omega
    rw [← Nat.div_add_mod c' w, ← Nat.div_add_mod c w, h1, h2]
/-- no clue yet: water, marks and the team's cell are written -/
theorem dq_P_chg {Si : Nat → Nat → Prop} (I : dq_P Y th ι a w h NB nb NC 0) (hm : w * h ≤ 400) (F : dq_fr Si dq_no Y Y') (hS : ∀ k j, Si k j → k = th ∨ k = ι 0 ∨ k = ι 2) (hf : dq_If Y' th a' w h) (hw : ∀ c, c < w * h → dw_i Y' (ι 0) c = a' (8 + c)) (hk : ∀ k, k < 8 → dw_i Y' (ι 2) k = a' (808 + k)) (hA : ∀ j, 5 ≤ j → ¬ (8 ≤ j ∧ j < 408) → ¬ (808 ≤ j ∧ j < 816) → j < 816 + 5 * nb → a' j = a j) : dq_P Y' th ι a' w h NB nb NC 0 := by
  obtain ⟨Is, -, ⟨r0, r1, r2, r3, r4, r5⟩, ⟨⟨m1, m2⟩, ⟨m3, m4⟩, m5, m6⟩, ⟨b1, b2⟩, ⟨c1, c2⟩, n1, n2, n3, n4, d1, d2, d3⟩ := I
  have er : ∀ k j, k < dw_n Y → dw_r Y' k j = dw_r Y k j := fun k j hk => F.2.2.2.2 k j hk (fun z => z)
  refine ⟨dq_is_fr F Is, hf, ⟨(er _ _ Is.1).trans r0, (er _ _ Is.1).trans r1, (er _ _ Is.1).trans r2, (er _ _ Is.1).trans r3, (er _ _ Is.1).trans r4, (er _ _ Is.1).trans r5⟩, ⟨⟨dq_A1_fr F m1, hw⟩, ⟨dq_A1_fr F m3, fun c hc => ?_⟩, dq_A1_fr F m5, hk⟩, ⟨dq_A1_fr F b1, fun k hk => ?_⟩, ⟨dq_A1_fr F c1, fun q hq => absurd hq (Nat.not_lt_zero _)⟩, dq_A1_fr F n1, n2, n3, n4, d1, d2, d3⟩
  · have x1 : ι 1 ≠ th := dq_is_ne m3.1 Is (by decide)
    have x2 : ι 1 ≠ ι 2 := dq_is_ne m3.1 m5.1 (by decide)
    rw [F.2.2.2.1 (ι 1) c m3.1.1 (fun z => by rcases hS _ _ z with z | z | z <;> omega), hA (408 + c) (by omega) (by omega) (by omega) (by omega)]
    exact m4 c hc
  · obtain ⟨e1, e2, e3⟩ := b2 k hk
    refine ⟨(er _ _ b1.1.1).trans e1, dq_A1_fr F e2, fun j hj => ?_⟩
    have x1 : ι (10 + k) ≠ th := dq_is_ne e2.1 Is (by decide)
    have x2 : ι (10 + k) ≠ ι 0 := dq_is_ne e2.1 m1.1 (by decide)
    have x3 := (d2 k hk).1
    rw [F.2.2.2.1 (ι (10 + k)) j e2.1.1 (fun z => by rcases hS _ _ z with z | z | z <;> omega), hA (816 + 5 * k + j) (by omega) (by omega) (by omega) (by omega)]
    exact e3 j hj
/-- a new row for the bends -/
theorem dq_P_row5 (I : dq_P Y th ι a w h NB0 0 NC 0) (A5 : dq_A1 Y x 26 NB) : ∃ κ, dq_P (dw_pr Y th 5 (some x)) th κ a w h NB 0 NC 0 ∧ κ 3 = x ∧ ∀ j, j ≠ 3 → κ j = ι j := by
  refine ⟨fun j => if j = 3 then x else ι j, ?_, if_pos rfl, fun j hj => if_neg hj⟩
  obtain ⟨Is, If, ⟨r0, r1, r2, r3, r4, r5⟩, Im, -, ⟨c1, c2⟩, n1, n2, n3, n4, d1, d2, d3⟩ := I
  have F : dq_fr dq_no (fun k _ => k = th) Y (dw_pr Y th 5 (some x)) := dq_fr_pr dq_fr_refl (fun _ => rfl)
  exact ⟨Is, If, ⟨(dq_r_pr_j (by decide)).trans r0, (dq_r_pr_j (by decide)).trans r1, (dq_r_pr_j (by decide)).trans r2, dq_r_pr_s, (dq_r_pr_j (by decide)).trans r4, (dq_r_pr_j (by decide)).trans r5⟩, Im, ⟨A5, fun k hk => absurd hk (Nat.not_lt_zero _)⟩, ⟨c1, fun q hq => absurd hq (Nat.not_lt_zero _)⟩, n1, n2, fun k hk => absurd hk (Nat.not_lt_zero _), fun k hk => absurd hk (Nat.not_lt_zero _), d1, fun k hk => absurd hk (Nat.not_lt_zero _), fun k hk => absurd hk (Nat.not_lt_zero _)⟩
/-- a new row for the clues -/
theorem dq_P_row6 (I : dq_P Y th ι a w h NB nb NC0 0) (hb : nb ≤ 8) (A6 : dq_A1 Y x 24 NC) : ∃ κ, dq_P (dw_pr Y th 6 (some x)) th κ a w h NB nb NC 0 ∧ κ 4 = x ∧ ∀ j, j ≠ 4 → κ j = ι j := by
  have e : ∀ j, j ≠ 4 → (fun j => if j = 4 then x else ι j) j = ι j := fun j hj => if_neg hj
  refine ⟨fun j => if j = 4 then x else ι j, ?_, if_pos rfl, e⟩
  have e4 : (fun j => if j = 4 then x else ι j) 4 = x := if_pos rfl
  generalize (fun j => if j = 4 then x else ι j) = κ at e e4
  obtain ⟨Is, If, ⟨r0, r1, r2, r3, r4, r5⟩, ⟨⟨m1, m2⟩, ⟨m3, m4⟩, m5, m6⟩, ⟨b1, b2⟩, ⟨c1, c2⟩, n1, n2, n3, n4, d1, d2, d3⟩ := I
  have k0 := e 0 (by decide)
  have k1 := e 1 (by decide)
  have k2 := e 2 (by decide)
  have k3 := e 3 (by decide)
  have k5 := e 5 (by decide)
  have kb : ∀ k, κ (10 + k) = ι (10 + k) := fun k => e _ (by omega)
  have x3 : ι 3 ≠ th := dq_is_ne b1.1 Is (by decide)
  refine ⟨Is, If, ⟨?_, ?_, ?_, ?_, ?_, ?_⟩, ⟨⟨?_, fun c hc => ?_⟩, ⟨?_, fun c hc => ?_⟩, ?_, fun k hk => ?_⟩, ⟨?_, fun k hk => ?_⟩, ⟨?_, fun q hq => absurd hq (Nat.not_lt_zero _)⟩, ?_, ?_, fun k hk => ?_, fun q hq => absurd hq (Nat.not_lt_zero _), ?_, fun k hk => ⟨?_, fun q hq => absurd hq (Nat.not_lt_zero _), fun i hi hik => ?_⟩, fun q hq => absurd hq (Nat.not_lt_zero _)⟩
  · rw [dq_r_pr_j (by decide), k0]; exact r0
  · rw [dq_r_pr_j (by decide), k1]; exact r1
  · rw [dq_r_pr_j (by decide), k2]; exact r2
  · rw [dq_r_pr_j (by decide), k3]; exact r3
  · rw [dq_r_pr_s, e4]
  · rw [dq_r_pr_j (by decide), k5]; exact r5
  · rw [k0]; exact m1
  · rw [k0]; exact m2 c hc
  · rw [k1]; exact m3
  · rw [k1]; exact m4 c hc
  · rw [k2]; exact m5
  · rw [k2]; exact m6 k hk
  · rw [k3]; exact b1
  · rw [k3, kb, dq_r_pr_k x3]; exact b2 k hk
  · rw [e4]; exact A6
  · rw [k5]; exact n1
  · rw [k5, k2]; exact n2
  · rw [k5, kb]; exact n3 k hk
  · rw [k0, k1]; exact d1
  · rw [k2, kb]; exact (d2 k hk).1
  · rw [kb, kb]; exact (d2 k hk).2.2 i hi hik
/-- a bend joins -/
theorem dq_P_bend (I : dq_P Y th ι a w h NB nb NC 0) (hm : w * h ≤ 400) (hb : nb ≤ 7) (A5 : dq_A1 Y x 20 5) (hx2 : ι 2 ≠ x) (hx5 : ι 5 ≠ x) (hxb : ∀ k, k < nb → ι (10 + k) ≠ x) (hv : ∀ j, j < 5 → dw_i Y x j = a' (816 + 5 * nb + j)) (hg : ∀ j, 4 ≤ j → j < 816 + 5 * nb → a' j = a j) : ∃ κ, dq_P (dw_pr Y (ι 3) nb (some x)) th κ a' w h NB (nb + 1) NC 0 ∧ κ (10 + nb) = x ∧ ∀ j, j ≠ 10 + nb → κ j = ι j := by
  have e : ∀ j, j ≠ 10 + nb → (fun j => if j = 10 + nb then x else ι j) j = ι j := fun j hj => if_neg hj
  refine ⟨fun j => if j = 10 + nb then x else ι j, ?_, if_pos rfl, e⟩
  have ex : (fun j => if j = 10 + nb then x else ι j) (10 + nb) = x := if_pos rfl
  generalize (fun j => if j = 10 + nb then x else ι j) = κ at e ex
  obtain ⟨Is, ⟨f0, f1, f2, f3, f4, f5⟩, ⟨r0, r1, r2, r3, r4, r5⟩, ⟨⟨m1, m2⟩, ⟨m3, m4⟩, m5, m6⟩, ⟨b1, b2⟩, ⟨c1, c2⟩, n1, n2, n3, n4, d1, d2, d3⟩ := I
  have k0 := e 0 (by omega)
  have k1 := e 1 (by omega)
  have k2 := e 2 (by omega)
  have k3 := e 3 (by omega)
  have k4 := e 4 (by omega)
  have k5 := e 5 (by omega)
  have kb : ∀ k, k < nb → κ (10 + k) = ι (10 + k) := fun k hk => e _ (by omega)
  have x3 : th ≠ ι 3 := dq_is_ne Is b1.1 (by decide)
  refine ⟨Is, ⟨f0, f1, ?_, ?_, ?_, fun z => ?_⟩, ⟨?_, ?_, ?_, ?_, ?_, ?_⟩, ⟨⟨?_, fun c hc => ?_⟩, ⟨?_, fun c hc => ?_⟩, ?_, fun k hk => ?_⟩, ⟨?_, fun k hk => ?_⟩, ⟨?_, fun q hq => absurd hq (Nat.not_lt_zero _)⟩, ?_, ?_, fun k hk => ?_, fun q hq => absurd hq (Nat.not_lt_zero _), ?_, fun k hk => ⟨?_, fun q hq => absurd hq (Nat.not_lt_zero _), fun i hi hik => ?_⟩, fun q hq => absurd hq (Nat.not_lt_zero _)⟩
  · rw [hg 4 (by omega) (by omega)]; exact f2
  · rw [hg 5 (by omega) (by omega)]; exact f3
  · rw [hg 6 (by omega) (by omega)]; exact f4
  · rw [hg 6 (by omega) (by omega)] at z
    rw [hg 7 (by omega) (by omega)]; exact f5 z
  · rw [dq_r_pr_k x3, k0]; exact r0
  · rw [dq_r_pr_k x3, k1]; exact r1
  · rw [dq_r_pr_k x3, k2]; exact r2
  · rw [dq_r_pr_k x3, k3]; exact r3
  · rw [dq_r_pr_k x3, k4]; exact r4
  · rw [dq_r_pr_k x3, k5]; exact r5
  · rw [k0]; exact m1
  · rw [k0, hg _ (by omega) (by omega)]; exact m2 c hc
  · rw [k1]; exact m3
  · rw [k1, hg _ (by omega) (by omega)]; exact m4 c hc
  · rw [k2]; exact m5
  · rw [k2, hg _ (by omega) (by omega)]; exact m6 k hk
  · rw [k3]; exact b1
  · rw [k3]
    by_cases ek : k = nb
    · rw [ek, ex]
      exact ⟨dq_r_pr_s, A5, fun j hj => hv j hj⟩
    · have hk2 : k < nb := by omega
      obtain ⟨e1, e2, e3⟩ := b2 k hk2
      rw [kb k hk2]
      exact ⟨(dq_r_pr_j (by omega)).trans e1, e2, fun j hj => by rw [hg _ (by omega) (by omega)]; exact e3 j hj⟩
  · rw [k4]; exact c1
  · rw [k5]; exact n1
  · rw [k5, k2]; exact n2
  · rw [k5]
    by_cases ek : k = nb
    · rw [ek, ex]; exact hx5
    · rw [kb k (by omega)]; exact n3 k (by omega)
  · rw [k0, k1]; exact d1
  · rw [k2]
    by_cases ek : k = nb
    · rw [ek, ex]; exact hx2
    · rw [kb k (by omega)]; exact (d2 k (by omega)).1
  · by_cases ek : k = nb
    · rw [ek, ex, kb i (by omega)]
      exact hxb i (by omega)
    · by_cases ei : i = nb
      · rw [ei, ex, kb k (by omega)]
        exact fun z => hxb k (by omega) z.symm
      · rw [kb i (by omega), kb k (by omega)]
        exact (d2 k (by omega)).2.2 i (by omega) hik
/-- the ids that count are new -/
def dq_fsh (N : Nat) (ι : Nat → Nat) (a : Nat → Int32) (nb nc : Nat) : Prop := (∀ k, dq_has ι a nb nc k → N ≤ k) ∧ N ≤ ι 5
theorem dq_fsh0 {N : Nat} : dq_fsh N ι a nb 0 ↔ (∀ j, j ≤ 5 → N ≤ ι j) ∧ ∀ k, k < nb → N ≤ ι (10 + k) := by
  constructor
  · rintro ⟨h1, h2⟩
    refine ⟨fun j hj => ?_, fun k hk => h1 _ (Or.inr (Or.inr (Or.inr (Or.inr (Or.inr (Or.inl ⟨k, hk, rfl⟩))))))⟩
    have hc : j = 0 ∨ j = 1 ∨ j = 2 ∨ j = 3 ∨ j = 4 ∨ j = 5 := by omega
    rcases hc with e | e | e | e | e | e <;> subst e
    · exact h1 _ (Or.inl rfl)
    · exact h1 _ (Or.inr (Or.inl rfl))
    · exact h1 _ (Or.inr (Or.inr (Or.inl rfl)))
    · exact h1 _ (Or.inr (Or.inr (Or.inr (Or.inl rfl))))
    · exact h1 _ (Or.inr (Or.inr (Or.inr (Or.inr (Or.inl rfl)))))
    · exact h2
  · rintro ⟨h1, h2⟩
    refine ⟨fun k z => ?_, h1 5 (by omega)⟩
    rcases z with z | z | z | z | z | ⟨i, hi, z⟩ | ⟨q, hq, -⟩
    · rw [z]; exact h1 _ (by omega)
    · rw [z]; exact h1 _ (by omega)
    · rw [z]; exact h1 _ (by omega)
    · rw [z]; exact h1 _ (by omega)
    · rw [z]; exact h1 _ (by omega)
    · rw [z]; exact h2 i hi
    · exact absurd hq (Nat.not_lt_zero _)
/-- a row of numbers, being filled -/
def dq_NA (Y Y' : dw_S) (q m : Nat) (D : Nat → Nat) (i : Nat) : Prop := dq_fr dq_no dq_no Y Y' ∧ dq_A1 Y' q 20 m ∧ dw_n Y ≤ q ∧ ∀ j, j < i → dw_i Y' q j = Int32.ofNat (D j)
theorem dq_NA_new {D : Nat → Nat} (h4 : 442 ≤ dw_n Y) (hq : dw_n Y ≤ q) : dq_NA Y (dw_nw Y q 20 m (fun _ => 0) (fun _ => none)) q m D 0 := ⟨dq_fr_nw dq_fr_refl hq, dq_A1_new h4 hq, hq, fun j hj => absurd hj (Nat.not_lt_zero _)⟩
theorem dq_NA_ok {D : Nat → Nat} (H : dq_NA Y Y' q m D i) {x : Int32} {k : Nat} (e : x = Int32.ofNat k) (hk : k < m) (hm : m < 100000) : dw_is Y' q 20 ∧ tw_ok x (dw_l Y' q) = true := by rw [e]; exact dq_A1_ok H.2.1 hk hm
theorem dq_NA_set {D : Nat → Nat} (H : dq_NA Y Y' q m D i) {k : Nat} {v : Int32} (ek : k = i) (ev : v = Int32.ofNat (D i)) : dq_NA Y (dw_pi Y' q k v) q m D (i + 1) := by
  subst ek ev
  obtain ⟨F, A1, hq, hv⟩ := H
  refine ⟨dq_fr_pi F (fun z => by omega), dq_A1_fr (Si := fun _ _ => True) (Sr := fun _ _ => True) (dq_fr_pi dq_fr_refl (fun _ => trivial)) A1, hq, fun j hj => ?_⟩
  by_cases e : j = k
  · rw [e]; exact dq_i_pi_s
  · rw [dq_i_pi_j e]; exact hv j (by omega)
theorem dq_NA_th {D : Nat → Nat} (H : dq_NA Y Y' q m D i) (I : dw_is Y th 13) : dw_is Y' th 13 ∧ ∀ j, dw_i Y' th j = dw_i Y th j := ⟨dq_is_fr H.1 I, fun j => H.1.2.2.2.1 th j I.1 (fun z => z)⟩
end DQRA
