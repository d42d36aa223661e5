/-! the law's turn in pieces; the end of one of the fourteen changes -/
def dq_lwA (n : Nat) (v : Int32) (Y : dw_S) (c s : Nat) (J : Int32 × dw_S × Nat × Nat → Prop) : Prop :=
tw_jn (fun (a189 : dw_S × Nat × Nat) =>
J ((0 : Int32), a189.1, a189.2.1, a189.2.2)) (fun (j190 : (dw_S × Nat × Nat) → Prop) =>
if v = 0 then (j190 (Y, c, s))
else (pw_ck (c ≤ dw_rc ∧ s ≤ dw_rs) (
pw_bd (tw_P_X11_errorOffset (dw_s Y)) (fun r191 =>
if ¬ r191 = (-1 : Int32) then (j190 ((dw_cs Y (dw_s Y)), c, s))
else (pw_ck (c ≤ dw_rc ∧ s ≤ dw_rs) (
pw_bd (tw_P_X11_undo n (dw_s (dw_cs Y (dw_s Y)))) (fun r192 =>
if ¬ r192.1 = (-1 : Int32) then (j190 ((dw_cs (dw_cs Y (dw_s Y)) r192.2), c, s))
else (pw_ck ((c + 1) ≤ dw_rc ∧ (s + 6) ≤ dw_rs) (
dw_P_L_turn n (0 : Int32) (0 : Int32) (dw_cs (dw_cs Y (dw_s Y)) r192.2) (fun (r193 : Int32 × dw_S) =>
if ¬ r193.1 = (-2000000097 : Int32) then (j190 (r193.2, (c + 1), (s + 6)))
else (pw_ck (((c + 1) + 1) ≤ dw_rc ∧ ((s + 6) + 6) ≤ dw_rs) (
dw_P_L_use n (0 : Int32) (1 : Int32) r193.2 (fun (r194 : Int32 × dw_S) =>
if ¬ r194.1 = (-2000000097 : Int32) then (j190 (r194.2, ((c + 1) + 1), ((s + 6) + 6)))
else (pw_ck ((((c + 1) + 1) + 1) ≤ dw_rc ∧ (((s + 6) + 6) + 6) ≤ dw_rs) (
dw_P_L_hide n (10000 : Int32) r194.2 (fun (r195 : Int32 × dw_S) =>
if ¬ r195.1 = (-2000000098 : Int32) then (j190 (r195.2, (((c + 1) + 1) + 1), (((s + 6) + 6) + 6)))
else (pw_ck (((((c + 1) + 1) + 1) + 1) ≤ dw_rc ∧ ((((s + 6) + 6) + 6) + 6) ≤ dw_rs) (
dw_P_L_moveTo n (0 : Int32) (1 : Int32) r195.2 (fun (r196 : Int32 × dw_S) =>
if ¬ r196.1 = (-2000000097 : Int32) then (j190 (r196.2, ((((c + 1) + 1) + 1) + 1), ((((s + 6) + 6) + 6) + 6)))
else (pw_ck (((((c + 1) + 1) + 1) + 1) ≤ dw_rc ∧ ((((s + 6) + 6) + 6) + 6) ≤ dw_rs) (
pw_bd (tw_P_X11_dig (dw_s r196.2)) (fun r197 =>
if ¬ r197.1 = (1 : Int32) then (j190 ((dw_cs r196.2 r197.2), ((((c + 1) + 1) + 1) + 1), ((((s + 6) + 6) + 6) + 6)))
else (pw_ck (((((c + 1) + 1) + 1) + 1) ≤ dw_rc ∧ ((((s + 6) + 6) + 6) + 6) ≤ dw_rs) (
pw_bd (tw_P_X11_dig (dw_s (dw_cs r196.2 r197.2))) (fun r198 =>
if ¬ r198.1 = 0 then (j190 ((dw_cs (dw_cs r196.2 r197.2) r198.2), ((((c + 1) + 1) + 1) + 1), ((((s + 6) + 6) + 6) + 6)))
else (pw_ck (((((c + 1) + 1) + 1) + 1) ≤ dw_rc ∧ ((((s + 6) + 6) + 6) + 6) ≤ dw_rs) (
pw_bd (tw_P_X11_undo n (dw_s (dw_cs (dw_cs r196.2 r197.2) r198.2))) (fun r199 =>
if ¬ r199.1 = (1 : Int32) then (j190 ((dw_cs (dw_cs (dw_cs r196.2 r197.2) r198.2) r199.2), ((((c + 1) + 1) + 1) + 1), ((((s + 6) + 6) + 6) + 6)))
else (pw_ck (((((c + 1) + 1) + 1) + 1) ≤ dw_rc ∧ ((((s + 6) + 6) + 6) + 6) ≤ dw_rs) (
pw_bd (tw_P_X11_undo n (dw_s (dw_cs (dw_cs (dw_cs r196.2 r197.2) r198.2) r199.2))) (fun r200 =>
if ¬ r200.1 = 0 then (j190 ((dw_cs (dw_cs (dw_cs (dw_cs r196.2 r197.2) r198.2) r199.2) r200.2), ((((c + 1) + 1) + 1) + 1), ((((s + 6) + 6) + 6) + 6)))
else (J ((1 : Int32), (dw_cs (dw_cs (dw_cs (dw_cs r196.2 r197.2) r198.2) r199.2) r200.2), ((((c + 1) + 1) + 1) + 1), ((((s + 6) + 6) + 6) + 6))))))))))))))))))))))))))))))))))
def dq_lwM (n q23 r34 : Nat) (v75 : Int32) (Y : dw_S) (c s : Nat) (J : Int32 × Int32 × dw_S × Nat × Nat → Prop) : Prop :=
pw_ck (dw_is Y q23 15 ∧ c ≤ dw_rc ∧ s ≤ dw_rs) (
dw_P_X15_below q23 v75 Y (fun (r97 : Int32 × dw_S) =>
pw_lt r97.1 (fun (v98 : Int32) =>
pw_ck (dw_is r97.2 r34 13) (
pw_ck (dw_is r97.2 r34 13 ∧ (c + 1) ≤ dw_rc ∧ (s + 30) ≤ dw_rs) (
dw_P_X13_far n r34 (dw_i r97.2 r34 7) none r97.2 (fun (r99 : Nat × dw_S) =>
pw_ck (dw_is r99.2 r99.1 20 ∧ tw_ok v98 (dw_l r99.2 r99.1) = true) (
pw_lt (dw_i r99.2 r99.1 (Int32.toNatClampNeg v98)) (fun (v100 : Int32) =>
tw_jn (fun (a101 : Int32) =>
pw_lt a101 (fun (v103 : Int32) =>
tw_jn (fun (a104 : dw_S) =>
pw_ck (dw_is a104 r34 13) (
pw_ck (¬ (dw_i a104 r34 0) = 0) (
pw_ck (dw_is a104 r34 13) (
pw_ck (¬ (dw_i a104 r34 0) = 0) (
pw_ck (((c + 1) + 1) ≤ dw_rc ∧ ((s + 30) + 6) ≤ dw_rs) (
dw_P_L_moveTo n (v98 - v98 / (dw_i a104 r34 0) * (dw_i a104 r34 0)) (v98 / (dw_i a104 r34 0)) a104 (fun (r106 : Int32 × dw_S) =>
tw_jn (fun (a107 : Int32) =>
tw_jn (fun (a109 : Int32) =>
pw_lt a109 (fun (v111 : Int32) =>
J (v111, v103, r106.2, ((c + 1) + 1), ((s + 30) + 6)))) (fun (j110 : (Int32) → Prop) =>
if ¬ r106.1 = a107 then (j110 (0 : Int32))
else (j110 (1 : Int32)))) (fun (j108 : (Int32) → Prop) =>
if v103 = 0 then (j108 (-1 : Int32))
else (j108 v100))))))))) (fun (j105 : (dw_S) → Prop) =>
if v103 = 0 then (j105 r99.2)
else (pw_ck (dw_is r99.2 r34 13) (pw_lt (dw_pi r99.2 r34 7 v98) (fun (Y112 : dw_S) =>
pw_ck (dw_is Y112 r34 13) (
pw_ck (dw_is Y112 r34 13) (pw_lt (dw_pi Y112 r34 8 ((dw_i Y112 r34 8) + v100)) (fun (Y113 : dw_S) =>
j105 Y113))))))))) (fun (j102 : (Int32) → Prop) =>
if (9999 : Int32) ≤ v100 then (j102 (0 : Int32))
else (j102 (1 : Int32)))))))))))
def dq_lwD (r34 : Nat) (v74 : Int32) (Y : dw_S) (c s : Nat) (J : Int32 × Int32 × dw_S × Nat × Nat → Prop) : Prop :=
pw_ck (c ≤ dw_rc ∧ s ≤ dw_rs) (
pw_bd (tw_P_X11_dig (dw_s Y)) (fun r117 =>
pw_ck (dw_is (dw_cs Y r117.2) r34 13 ∧ c ≤ dw_rc ∧ s ≤ dw_rs) (
dw_P_X13_digs r34 (dw_cs Y r117.2) (fun (r118 : Int32 × dw_S) =>
tw_jn (fun (a119 : Int32) =>
pw_lt a119 (fun (v121 : Int32) =>
J (v121, v74, r118.2, c, s))) (fun (j120 : (Int32) → Prop) =>
if ¬ r117.1 = r118.1 then (j120 (0 : Int32))
else (j120 (1 : Int32)))))))
def dq_lwS (n q23 r34 : Nat) (Y : dw_S) (c s : Nat) (J : Int32 × Int32 × dw_S × Nat × Nat → Prop) : Prop :=
pw_ck (dw_is Y r34 13) (
pw_nn (dw_r Y r34 6) (fun (r123 : Nat) =>
pw_ck (dw_is Y r123 24) (
pw_ck (dw_is Y q23 15 ∧ c ≤ dw_rc ∧ s ≤ dw_rs) (
dw_P_X15_below q23 ((Int32.ofNat (dw_l Y r123)) + (1 : Int32)) Y (fun (r124 : Int32 × dw_S) =>
pw_lt r124.1 (fun (v125 : Int32) =>
pw_ck (dw_is r124.2 q23 15 ∧ c ≤ dw_rc ∧ s ≤ dw_rs) (
dw_P_X15_below q23 (2 : Int32) r124.2 (fun (r126 : Int32 × dw_S) =>
tw_jn (fun (a127 : Int32) =>
pw_lt a127 (fun (v129 : Int32) =>
pw_ck (dw_is r126.2 r34 13) (
pw_nn (dw_r r126.2 r34 6) (fun (r130 : Nat) =>
pw_ck (dw_is r126.2 r130 24) (
tw_jn (fun (a131 : Int32) =>
pw_lt a131 (fun (v133 : Int32) =>
tw_jn (fun (a134 : dw_S) =>
pw_ck ((c + 1) ≤ dw_rc ∧ (s + 6) ≤ dw_rs) (
dw_P_L_use n v125 v129 a134 (fun (r136 : Int32 × dw_S) =>
tw_jn (fun (a137 : Int32 × dw_S × Nat × Nat) =>
tw_jn (fun (a139 : Int32) =>
pw_lt a139 (fun (v141 : Int32) =>
J (v141, v133, a137.2.1, a137.2.2.1, a137.2.2.2))) (fun (j140 : (Int32) → Prop) =>
if ¬ r136.1 = a137.1 then (j140 (0 : Int32))
else (j140 (1 : Int32)))) (fun (j138 : (Int32 × dw_S × Nat × Nat) → Prop) =>
if v133 = 0 then (j138 ((-2000000097 : Int32), r136.2, (c + 1), (s + 6)))
else (pw_ck (dw_is r136.2 r34 13 ∧ ((c + 1) + 95) ≤ dw_rc ∧ ((s + 6) + 8574) ≤ dw_rs) (
dw_P_X13_left n r34 r136.2 (fun (r142 : Nat × dw_S) =>
pw_ck (((c + 1) + 95) ≤ dw_rc ∧ ((s + 6) + 8574) ≤ dw_rs) (
dw_P_X13_many n r142.1 r142.2 (fun (r143 : Int32) =>
j138 (r143, r142.2, ((c + 1) + 95), ((s + 6) + 8574))))))))))) (fun (j135 : (dw_S) → Prop) =>
if v133 = 0 then (j135 r126.2)
else (pw_ck (dw_is r126.2 r34 13) (
pw_nn (dw_r r126.2 r34 6) (fun (r144 : Nat) =>
pw_ck (dw_is r126.2 r144 24 ∧ tw_ok v125 (dw_l r126.2 r144) = true) (
pw_nn (dw_r r126.2 r144 (Int32.toNatClampNeg v125)) (fun (r145 : Nat) =>
pw_ck (tw_01 v129 = true) (
pw_ck (dw_is r126.2 r145 12) (pw_lt (dw_pi r126.2 r145 2 v129) (fun (Y146 : dw_S) =>
j135 Y146))))))))))) (fun (j132 : (Int32) → Prop) =>
if (Int32.ofNat (dw_l r126.2 r130)) ≤ v125 then (j132 (0 : Int32))
else (j132 (1 : Int32)))))))) (fun (j128 : (Int32) → Prop) =>
if ¬ r126.1 = 0 then (j128 (0 : Int32))
else (j128 (1 : Int32)))))))))))
def dq_lwH (n q23 r34 : Nat) (v74 : Int32) (Y : dw_S) (c s : Nat) (J : Int32 × Int32 × dw_S × Nat × Nat → Prop) : Prop :=
pw_ck (dw_is Y q23 15 ∧ c ≤ dw_rc ∧ s ≤ dw_rs) (
dw_P_X15_below q23 (40 : Int32) Y (fun (r148 : Int32 × dw_S) =>
pw_lt r148.1 (fun (v149 : Int32) =>
pw_ck ((c + 1) ≤ dw_rc ∧ (s + 6) ≤ dw_rs) (
dw_P_L_hide n v149 r148.2 (fun (r150 : Int32 × dw_S) =>
pw_ck (dw_is r150.2 r34 13 ∧ ((c + 1) + 95) ≤ dw_rc ∧ ((s + 6) + 8574) ≤ dw_rs) (
dw_P_X13_hides n r34 v149 r150.2 (fun (r151 : Int32 × dw_S) =>
tw_jn (fun (a152 : Int32) =>
pw_lt a152 (fun (v154 : Int32) =>
J (v154, v74, r151.2, ((c + 1) + 95), ((s + 6) + 8574)))) (fun (j153 : (Int32) → Prop) =>
if ¬ r150.1 = r151.1 then (j153 (0 : Int32))
else (j153 (1 : Int32))))))))))
def dq_lwR (n q23 r34 : Nat) (Y : dw_S) (c s : Nat) (J : Int32 × Int32 × dw_S × Nat × Nat → Prop) : Prop :=
pw_ck (dw_is Y r34 13) (
pw_nn (dw_r Y r34 5) (fun (r155 : Nat) =>
pw_ck (dw_is Y r155 26) (
pw_ck (dw_is Y q23 15 ∧ c ≤ dw_rc ∧ s ≤ dw_rs) (
dw_P_X15_below q23 ((Int32.ofNat (dw_l Y r155)) + (1 : Int32)) Y (fun (r156 : Int32 × dw_S) =>
pw_lt r156.1 (fun (v157 : Int32) =>
pw_ck (dw_is r156.2 q23 15 ∧ c ≤ dw_rc ∧ s ≤ dw_rs) (
dw_P_X15_below q23 (9 : Int32) r156.2 (fun (r158 : Int32 × dw_S) =>
pw_lt (r158.1 - (4 : Int32)) (fun (v159 : Int32) =>
pw_ck (dw_is r158.2 r34 13) (
pw_nn (dw_r r158.2 r34 5) (fun (r160 : Nat) =>
pw_ck (dw_is r158.2 r160 26) (
tw_jn (fun (a161 : Int32) =>
pw_lt a161 (fun (v163 : Int32) =>
tw_jn (fun (a164 : Int32) =>
pw_lt a164 (fun (v166 : Int32) =>
tw_jn (fun (a167 : Int32) =>
pw_lt a167 (fun (v169 : Int32) =>
tw_jn (fun (a170 : dw_S) =>
pw_ck ((c + 1) ≤ dw_rc ∧ (s + 6) ≤ dw_rs) (
dw_P_L_turn n v157 v159 a170 (fun (r172 : Int32 × dw_S) =>
tw_jn (fun (a173 : Int32) =>
tw_jn (fun (a175 : Int32) =>
pw_lt a175 (fun (v177 : Int32) =>
J (v177, v166, r172.2, (c + 1), (s + 6)))) (fun (j176 : (Int32) → Prop) =>
if ¬ r172.1 = a173 then (j176 (0 : Int32))
else (j176 (1 : Int32)))) (fun (j174 : (Int32) → Prop) =>
if v166 = 0 then (if v163 = 0 then (j174 (-2000000097 : Int32))
else (j174 (-2000000098 : Int32)))
else (j174 v169))))) (fun (j171 : (dw_S) → Prop) =>
if v166 = 0 then (j171 r158.2)
else (pw_ck (dw_is r158.2 r34 13) (
pw_nn (dw_r r158.2 r34 5) (fun (r178 : Nat) =>
pw_ck (dw_is r158.2 r178 26 ∧ tw_ok v157 (dw_l r158.2 r178) = true) (
pw_nn (dw_r r158.2 r178 (Int32.toNatClampNeg v157)) (fun (r179 : Nat) =>
pw_ck (dw_is r158.2 r179 20 ∧ tw_ok (4 : Int32) (dw_l r158.2 r179) = true) (pw_lt (dw_pi r158.2 r179 4 v159) (fun (Y180 : dw_S) =>
j171 Y180)))))))))) (fun (j168 : (Int32) → Prop) =>
if v163 = 0 then (j168 (0 : Int32))
else (pw_ck (dw_is r158.2 r34 13) (
pw_nn (dw_r r158.2 r34 5) (fun (r181 : Nat) =>
pw_ck (dw_is r158.2 r181 26 ∧ tw_ok v157 (dw_l r158.2 r181) = true) (
pw_nn (dw_r r158.2 r181 (Int32.toNatClampNeg v157)) (fun (r182 : Nat) =>
pw_ck (dw_is r158.2 r182 20 ∧ tw_ok (4 : Int32) (dw_l r158.2 r182) = true) (
j168 (dw_i r158.2 r182 4)))))))))) (fun (j165 : (Int32) → Prop) =>
tw_jn (fun (a183 : Unit) =>
j165 (0 : Int32)) (fun (j184 : (Unit) → Prop) =>
if v163 = 0 then (j184 ())
else (pw_ck (c ≤ dw_rc ∧ s ≤ dw_rs) (
if (4 : Int32) ≤ (if 0 ≤ v159 then v159 else 0 - v159) then (j184 ())
else (j165 (1 : Int32)))))))) (fun (j162 : (Int32) → Prop) =>
if (Int32.ofNat (dw_l r158.2 r160)) ≤ v157 then (j162 (0 : Int32))
else (j162 (1 : Int32)))))))))))))))
def dq_lwX (n r34 q38 u : Nat) (ok isCh done cnt : Int32) (Y : dw_S) (c s : Nat) (K : Int32 × Int32 × Int32 × dw_S × Nat × Nat → Prop) : Prop :=
tw_jn (fun (a79 : Int32 × Int32 × dw_S) =>
tw_jn (fun (a81 : Int32 × dw_S × Nat × Nat) =>
pw_lt a81.1 (fun (v83 : Int32) =>
pw_lt (a79.2.1 + (1 : Int32)) (fun (v84 : Int32) =>
K (v83, a79.1, v84, a81.2.1, a81.2.2.1, a81.2.2.2)))) (fun (j82 : (Int32 × dw_S × Nat × Nat) → Prop) =>
tw_jn (fun (a85 : dw_S × Nat × Nat) =>
j82 ((0 : Int32), a85.1, a85.2.1, a85.2.2)) (fun (j86 : (dw_S × Nat × Nat) → Prop) =>
if ok = 0 then (j86 (a79.2.2, c, s))
else (pw_ck ((c + 1457) ≤ dw_rc ∧ (s + 117018) ≤ dw_rs) (
dw_P_L_agrees n r34 a79.2.2 (fun (r87 : Int32 × dw_S) =>
if r87.1 = 0 then (j86 (r87.2, (c + 1457), (s + 117018)))
else (j82 ((1 : Int32), r87.2, (c + 1457), (s + 117018))))))))) (fun (j80 : (Int32 × Int32 × dw_S) → Prop) =>
if isCh = 0 then (j80 (done, cnt, Y))
else (pw_lt (8 : Int32) (fun (v88 : Int32) =>
pw_lp (fun (k90 : (Int32 × Int32 × Int32 × dw_S) → Prop) (a89 : Int32 × Int32 × Int32 × dw_S) =>
if a89.2.2.1 ≤ 0 then (pw_ck (dw_is a89.2.2.2 q38 25 ∧ tw_ok (0 : Int32) (dw_l a89.2.2.2 q38) = true ∧ ∀ v, (some u) = some v → dw_is a89.2.2.2 v 13) (pw_lt (dw_pr a89.2.2.2 q38 0 (some u)) (fun (Y91 : dw_S) =>
pw_lt (a89.1 + (1 : Int32)) (fun (v92 : Int32) =>
j80 (v92, a89.2.1, Y91)))))
else (pw_ck (dw_is a89.2.2.2 q38 25 ∧ tw_ok (a89.2.2.1 - (1 : Int32)) (dw_l a89.2.2.2 q38) = true) (
pw_ck (dw_is a89.2.2.2 q38 25 ∧ tw_ok a89.2.2.1 (dw_l a89.2.2.2 q38) = true ∧ ∀ v, (dw_r a89.2.2.2 q38 (Int32.toNatClampNeg (a89.2.2.1 - (1 : Int32)))) = some v → dw_is a89.2.2.2 v 13) (pw_lt (dw_pr a89.2.2.2 q38 (Int32.toNatClampNeg a89.2.2.1) (dw_r a89.2.2.2 q38 (Int32.toNatClampNeg (a89.2.2.1 - (1 : Int32))))) (fun (Y93 : dw_S) =>
pw_lt (a89.2.2.1 + (-1 : Int32)) (fun (v94 : Int32) =>
k90 (a89.1, a89.2.1, v94, Y93))))))) n (done, cnt, v88, Y))))
def dq_lwI (n q23 r34 q38 : Nat) (done cnt : Int32) (Y : dw_S) (c s : Nat) (K : Int32 × Int32 × Int32 × dw_S × Nat × Nat → Prop) : Prop :=
pw_ck (dw_is Y r34 13 ∧ (c + 21) ≤ dw_rc ∧ (s + 86) ≤ dw_rs) (
dw_P_X13_copy n r34 Y (fun (r73 : Nat × dw_S) =>
pw_lt (1 : Int32) (fun (v74 : Int32) =>
pw_ck (dw_is r73.2 r34 13) (
pw_ck (dw_is r73.2 r34 13) (
pw_lt ((dw_i r73.2 r34 0) * (dw_i r73.2 r34 1)) (fun (v75 : Int32) =>
pw_ck (dw_is r73.2 q23 15 ∧ (c + 21) ≤ dw_rc ∧ (s + 86) ≤ dw_rs) (
dw_P_X15_below q23 (6 : Int32) r73.2 (fun (r76 : Int32 × dw_S) =>
tw_jn (fun (a77 : Int32 × Int32 × dw_S × Nat × Nat) =>
tw_jn (fun (a79 : Int32 × Int32 × dw_S) =>
tw_jn (fun (a81 : Int32 × dw_S × Nat × Nat) =>
pw_lt a81.1 (fun (v83 : Int32) =>
pw_lt (a79.2.1 + (1 : Int32)) (fun (v84 : Int32) =>
K (v83, a79.1, v84, a81.2.1, a81.2.2.1, a81.2.2.2)))) (fun (j82 : (Int32 × dw_S × Nat × Nat) → Prop) =>
tw_jn (fun (a85 : dw_S × Nat × Nat) =>
j82 ((0 : Int32), a85.1, a85.2.1, a85.2.2)) (fun (j86 : (dw_S × Nat × Nat) → Prop) =>
if a77.1 = 0 then (j86 (a79.2.2, a77.2.2.2.1, a77.2.2.2.2))
else (pw_ck ((a77.2.2.2.1 + 1457) ≤ dw_rc ∧ (a77.2.2.2.2 + 117018) ≤ dw_rs) (
dw_P_L_agrees n r34 a79.2.2 (fun (r87 : Int32 × dw_S) =>
if r87.1 = 0 then (j86 (r87.2, (a77.2.2.2.1 + 1457), (a77.2.2.2.2 + 117018)))
else (j82 ((1 : Int32), r87.2, (a77.2.2.2.1 + 1457), (a77.2.2.2.2 + 117018))))))))) (fun (j80 : (Int32 × Int32 × dw_S) → Prop) =>
if a77.2.1 = 0 then (j80 (done, cnt, a77.2.2.1))
else (pw_lt (8 : Int32) (fun (v88 : Int32) =>
pw_lp (fun (k90 : (Int32 × Int32 × Int32 × dw_S) → Prop) (a89 : Int32 × Int32 × Int32 × dw_S) =>
if a89.2.2.1 ≤ 0 then (pw_ck (dw_is a89.2.2.2 q38 25 ∧ tw_ok (0 : Int32) (dw_l a89.2.2.2 q38) = true ∧ ∀ v, (some r73.1) = some v → dw_is a89.2.2.2 v 13) (pw_lt (dw_pr a89.2.2.2 q38 0 (some r73.1)) (fun (Y91 : dw_S) =>
pw_lt (a89.1 + (1 : Int32)) (fun (v92 : Int32) =>
j80 (v92, a89.2.1, Y91)))))
else (pw_ck (dw_is a89.2.2.2 q38 25 ∧ tw_ok (a89.2.2.1 - (1 : Int32)) (dw_l a89.2.2.2 q38) = true) (
pw_ck (dw_is a89.2.2.2 q38 25 ∧ tw_ok a89.2.2.1 (dw_l a89.2.2.2 q38) = true ∧ ∀ v, (dw_r a89.2.2.2 q38 (Int32.toNatClampNeg (a89.2.2.1 - (1 : Int32)))) = some v → dw_is a89.2.2.2 v 13) (pw_lt (dw_pr a89.2.2.2 q38 (Int32.toNatClampNeg a89.2.2.1) (dw_r a89.2.2.2 q38 (Int32.toNatClampNeg (a89.2.2.1 - (1 : Int32))))) (fun (Y93 : dw_S) =>
pw_lt (a89.2.2.1 + (-1 : Int32)) (fun (v94 : Int32) =>
k90 (a89.1, a89.2.1, v94, Y93))))))) n (done, cnt, v88, a77.2.2.1))))) (fun (j78 : (Int32 × Int32 × dw_S × Nat × Nat) → Prop) =>
tw_jn (fun (a95 : Unit) =>
pw_ck (dw_is r76.2 q23 15 ∧ (c + 21) ≤ dw_rc ∧ (s + 86) ≤ dw_rs) (
dw_P_X15_below q23 v75 r76.2 (fun (r97 : Int32 × dw_S) =>
pw_lt r97.1 (fun (v98 : Int32) =>
pw_ck (dw_is r97.2 r34 13) (
pw_ck (dw_is r97.2 r34 13 ∧ ((c + 21) + 1) ≤ dw_rc ∧ ((s + 86) + 30) ≤ dw_rs) (
dw_P_X13_far n r34 (dw_i r97.2 r34 7) none r97.2 (fun (r99 : Nat × dw_S) =>
pw_ck (dw_is r99.2 r99.1 20 ∧ tw_ok v98 (dw_l r99.2 r99.1) = true) (
pw_lt (dw_i r99.2 r99.1 (Int32.toNatClampNeg v98)) (fun (v100 : Int32) =>
tw_jn (fun (a101 : Int32) =>
pw_lt a101 (fun (v103 : Int32) =>
tw_jn (fun (a104 : dw_S) =>
pw_ck (dw_is a104 r34 13) (
pw_ck (¬ (dw_i a104 r34 0) = 0) (
pw_ck (dw_is a104 r34 13) (
pw_ck (¬ (dw_i a104 r34 0) = 0) (
pw_ck ((((c + 21) + 1) + 1) ≤ dw_rc ∧ (((s + 86) + 30) + 6) ≤ dw_rs) (
dw_P_L_moveTo n (v98 - v98 / (dw_i a104 r34 0) * (dw_i a104 r34 0)) (v98 / (dw_i a104 r34 0)) a104 (fun (r106 : Int32 × dw_S) =>
tw_jn (fun (a107 : Int32) =>
tw_jn (fun (a109 : Int32) =>
pw_lt a109 (fun (v111 : Int32) =>
j78 (v111, v103, r106.2, (((c + 21) + 1) + 1), (((s + 86) + 30) + 6)))) (fun (j110 : (Int32) → Prop) =>
if ¬ r106.1 = a107 then (j110 (0 : Int32))
else (j110 (1 : Int32)))) (fun (j108 : (Int32) → Prop) =>
if v103 = 0 then (j108 (-1 : Int32))
else (j108 v100))))))))) (fun (j105 : (dw_S) → Prop) =>
if v103 = 0 then (j105 r99.2)
else (pw_ck (dw_is r99.2 r34 13) (pw_lt (dw_pi r99.2 r34 7 v98) (fun (Y112 : dw_S) =>
pw_ck (dw_is Y112 r34 13) (
pw_ck (dw_is Y112 r34 13) (pw_lt (dw_pi Y112 r34 8 ((dw_i Y112 r34 8) + v100)) (fun (Y113 : dw_S) =>
j105 Y113))))))))) (fun (j102 : (Int32) → Prop) =>
if (9999 : Int32) ≤ v100 then (j102 (0 : Int32))
else (j102 (1 : Int32)))))))))))) (fun (j96 : (Unit) → Prop) =>
if r76.1 = (0 : Int32) then (j96 ())
else (if r76.1 = (1 : Int32) then (j96 ())
else (if r76.1 = (2 : Int32) then (pw_ck ((c + 21) ≤ dw_rc ∧ (s + 86) ≤ dw_rs) (
pw_bd (tw_P_X11_dig (dw_s r76.2)) (fun r117 =>
pw_ck (dw_is (dw_cs r76.2 r117.2) r34 13 ∧ (c + 21) ≤ dw_rc ∧ (s + 86) ≤ dw_rs) (
dw_P_X13_digs r34 (dw_cs r76.2 r117.2) (fun (r118 : Int32 × dw_S) =>
tw_jn (fun (a119 : Int32) =>
pw_lt a119 (fun (v121 : Int32) =>
j78 (v121, v74, r118.2, (c + 21), (s + 86)))) (fun (j120 : (Int32) → Prop) =>
if ¬ r117.1 = r118.1 then (j120 (0 : Int32))
else (j120 (1 : Int32))))))))
else (if r76.1 = (3 : Int32) then (pw_ck (dw_is r76.2 r34 13) (
pw_nn (dw_r r76.2 r34 6) (fun (r123 : Nat) =>
pw_ck (dw_is r76.2 r123 24) (
pw_ck (dw_is r76.2 q23 15 ∧ (c + 21) ≤ dw_rc ∧ (s + 86) ≤ dw_rs) (
dw_P_X15_below q23 ((Int32.ofNat (dw_l r76.2 r123)) + (1 : Int32)) r76.2 (fun (r124 : Int32 × dw_S) =>
pw_lt r124.1 (fun (v125 : Int32) =>
pw_ck (dw_is r124.2 q23 15 ∧ (c + 21) ≤ dw_rc ∧ (s + 86) ≤ dw_rs) (
dw_P_X15_below q23 (2 : Int32) r124.2 (fun (r126 : Int32 × dw_S) =>
tw_jn (fun (a127 : Int32) =>
pw_lt a127 (fun (v129 : Int32) =>
pw_ck (dw_is r126.2 r34 13) (
pw_nn (dw_r r126.2 r34 6) (fun (r130 : Nat) =>
pw_ck (dw_is r126.2 r130 24) (
tw_jn (fun (a131 : Int32) =>
pw_lt a131 (fun (v133 : Int32) =>
tw_jn (fun (a134 : dw_S) =>
pw_ck (((c + 21) + 1) ≤ dw_rc ∧ ((s + 86) + 6) ≤ dw_rs) (
dw_P_L_use n v125 v129 a134 (fun (r136 : Int32 × dw_S) =>
tw_jn (fun (a137 : Int32 × dw_S × Nat × Nat) =>
tw_jn (fun (a139 : Int32) =>
pw_lt a139 (fun (v141 : Int32) =>
j78 (v141, v133, a137.2.1, a137.2.2.1, a137.2.2.2))) (fun (j140 : (Int32) → Prop) =>
if ¬ r136.1 = a137.1 then (j140 (0 : Int32))
else (j140 (1 : Int32)))) (fun (j138 : (Int32 × dw_S × Nat × Nat) → Prop) =>
if v133 = 0 then (j138 ((-2000000097 : Int32), r136.2, ((c + 21) + 1), ((s + 86) + 6)))
else (pw_ck (dw_is r136.2 r34 13 ∧ (((c + 21) + 1) + 95) ≤ dw_rc ∧ (((s + 86) + 6) + 8574) ≤ dw_rs) (
dw_P_X13_left n r34 r136.2 (fun (r142 : Nat × dw_S) =>
pw_ck ((((c + 21) + 1) + 95) ≤ dw_rc ∧ (((s + 86) + 6) + 8574) ≤ dw_rs) (
dw_P_X13_many n r142.1 r142.2 (fun (r143 : Int32) =>
j138 (r143, r142.2, (((c + 21) + 1) + 95), (((s + 86) + 6) + 8574))))))))))) (fun (j135 : (dw_S) → Prop) =>
if v133 = 0 then (j135 r126.2)
else (pw_ck (dw_is r126.2 r34 13) (
pw_nn (dw_r r126.2 r34 6) (fun (r144 : Nat) =>
pw_ck (dw_is r126.2 r144 24 ∧ tw_ok v125 (dw_l r126.2 r144) = true) (
pw_nn (dw_r r126.2 r144 (Int32.toNatClampNeg v125)) (fun (r145 : Nat) =>
pw_ck (tw_01 v129 = true) (
pw_ck (dw_is r126.2 r145 12) (pw_lt (dw_pi r126.2 r145 2 v129) (fun (Y146 : dw_S) =>
j135 Y146))))))))))) (fun (j132 : (Int32) → Prop) =>
if (Int32.ofNat (dw_l r126.2 r130)) ≤ v125 then (j132 (0 : Int32))
else (j132 (1 : Int32)))))))) (fun (j128 : (Int32) → Prop) =>
if ¬ r126.1 = 0 then (j128 (0 : Int32))
else (j128 (1 : Int32))))))))))))
else (if r76.1 = (4 : Int32) then (pw_ck (dw_is r76.2 q23 15 ∧ (c + 21) ≤ dw_rc ∧ (s + 86) ≤ dw_rs) (
dw_P_X15_below q23 (40 : Int32) r76.2 (fun (r148 : Int32 × dw_S) =>
pw_lt r148.1 (fun (v149 : Int32) =>
pw_ck (((c + 21) + 1) ≤ dw_rc ∧ ((s + 86) + 6) ≤ dw_rs) (
dw_P_L_hide n v149 r148.2 (fun (r150 : Int32 × dw_S) =>
pw_ck (dw_is r150.2 r34 13 ∧ (((c + 21) + 1) + 95) ≤ dw_rc ∧ (((s + 86) + 6) + 8574) ≤ dw_rs) (
dw_P_X13_hides n r34 v149 r150.2 (fun (r151 : Int32 × dw_S) =>
tw_jn (fun (a152 : Int32) =>
pw_lt a152 (fun (v154 : Int32) =>
j78 (v154, v74, r151.2, (((c + 21) + 1) + 95), (((s + 86) + 6) + 8574)))) (fun (j153 : (Int32) → Prop) =>
if ¬ r150.1 = r151.1 then (j153 (0 : Int32))
else (j153 (1 : Int32)))))))))))
else (pw_ck (dw_is r76.2 r34 13) (
pw_nn (dw_r r76.2 r34 5) (fun (r155 : Nat) =>
pw_ck (dw_is r76.2 r155 26) (
pw_ck (dw_is r76.2 q23 15 ∧ (c + 21) ≤ dw_rc ∧ (s + 86) ≤ dw_rs) (
dw_P_X15_below q23 ((Int32.ofNat (dw_l r76.2 r155)) + (1 : Int32)) r76.2 (fun (r156 : Int32 × dw_S) =>
pw_lt r156.1 (fun (v157 : Int32) =>
pw_ck (dw_is r156.2 q23 15 ∧ (c + 21) ≤ dw_rc ∧ (s + 86) ≤ dw_rs) (
dw_P_X15_below q23 (9 : Int32) r156.2 (fun (r158 : Int32 × dw_S) =>
pw_lt (r158.1 - (4 : Int32)) (fun (v159 : Int32) =>
pw_ck (dw_is r158.2 r34 13) (
pw_nn (dw_r r158.2 r34 5) (fun (r160 : Nat) =>
pw_ck (dw_is r158.2 r160 26) (
tw_jn (fun (a161 : Int32) =>
pw_lt a161 (fun (v163 : Int32) =>
tw_jn (fun (a164 : Int32) =>
pw_lt a164 (fun (v166 : Int32) =>
tw_jn (fun (a167 : Int32) =>
pw_lt a167 (fun (v169 : Int32) =>
tw_jn (fun (a170 : dw_S) =>
pw_ck (((c + 21) + 1) ≤ dw_rc ∧ ((s + 86) + 6) ≤ dw_rs) (
dw_P_L_turn n v157 v159 a170 (fun (r172 : Int32 × dw_S) =>
tw_jn (fun (a173 : Int32) =>
tw_jn (fun (a175 : Int32) =>
pw_lt a175 (fun (v177 : Int32) =>
j78 (v177, v166, r172.2, ((c + 21) + 1), ((s + 86) + 6)))) (fun (j176 : (Int32) → Prop) =>
if ¬ r172.1 = a173 then (j176 (0 : Int32))
else (j176 (1 : Int32)))) (fun (j174 : (Int32) → Prop) =>
if v166 = 0 then (if v163 = 0 then (j174 (-2000000097 : Int32))
else (j174 (-2000000098 : Int32)))
else (j174 v169))))) (fun (j171 : (dw_S) → Prop) =>
if v166 = 0 then (j171 r158.2)
else (pw_ck (dw_is r158.2 r34 13) (
pw_nn (dw_r r158.2 r34 5) (fun (r178 : Nat) =>
pw_ck (dw_is r158.2 r178 26 ∧ tw_ok v157 (dw_l r158.2 r178) = true) (
pw_nn (dw_r r158.2 r178 (Int32.toNatClampNeg v157)) (fun (r179 : Nat) =>
pw_ck (dw_is r158.2 r179 20 ∧ tw_ok (4 : Int32) (dw_l r158.2 r179) = true) (pw_lt (dw_pi r158.2 r179 4 v159) (fun (Y180 : dw_S) =>
j171 Y180)))))))))) (fun (j168 : (Int32) → Prop) =>
if v163 = 0 then (j168 (0 : Int32))
else (pw_ck (dw_is r158.2 r34 13) (
pw_nn (dw_r r158.2 r34 5) (fun (r181 : Nat) =>
pw_ck (dw_is r158.2 r181 26 ∧ tw_ok v157 (dw_l r158.2 r181) = true) (
pw_nn (dw_r r158.2 r181 (Int32.toNatClampNeg v157)) (fun (r182 : Nat) =>
pw_ck (dw_is r158.2 r182 20 ∧ tw_ok (4 : Int32) (dw_l r158.2 r182) = true) (
j168 (dw_i r158.2 r182 4)))))))))) (fun (j165 : (Int32) → Prop) =>
tw_jn (fun (a183 : Unit) =>
j165 (0 : Int32)) (fun (j184 : (Unit) → Prop) =>
if v163 = 0 then (j184 ())
else (pw_ck ((c + 21) ≤ dw_rc ∧ (s + 86) ≤ dw_rs) (
if (4 : Int32) ≤ (if 0 ≤ v159 then v159 else 0 - v159) then (j184 ())
else (j165 (1 : Int32)))))))) (fun (j162 : (Int32) → Prop) =>
if (Int32.ofNat (dw_l r158.2 r160)) ≤ v157 then (j162 (0 : Int32))
else (j162 (1 : Int32))))))))))))))))))))))))))))))
def dq_lwUb (n q38 : Nat) (ok done j : Int32) (Y : dw_S) (c s : Nat) (K : Int32 × Int32 × Int32 × dw_S × Nat × Nat → Prop) : Prop :=
pw_ck (c ≤ dw_rc ∧ s ≤ dw_rs) (
pw_bd (tw_P_X11_undo n (dw_s Y)) (fun r64 =>
tw_jn (fun (a65 : Int32 × dw_S × Nat × Nat) =>
pw_lt a65.1 (fun (v67 : Int32) =>
pw_lt (j + (1 : Int32)) (fun (v68 : Int32) =>
K (v67, done, v68, a65.2.1, a65.2.2.1, a65.2.2.2)))) (fun (j66 : (Int32 × dw_S × Nat × Nat) → Prop) =>
tw_jn (fun (a69 : dw_S × Nat × Nat) =>
j66 ((0 : Int32), a69.1, a69.2.1, a69.2.2)) (fun (j70 : (dw_S × Nat × Nat) → Prop) =>
if r64.1 < 0 then (j70 ((dw_cs Y r64.2), c, s))
else (pw_ck (dw_is (dw_cs Y r64.2) q38 25 ∧ tw_ok j (dw_l (dw_cs Y r64.2) q38) = true) (
pw_nn (dw_r (dw_cs Y r64.2) q38 (Int32.toNatClampNeg j)) (fun (r71 : Nat) =>
pw_ck ((c + 1457) ≤ dw_rc ∧ (s + 117018) ≤ dw_rs) (
dw_P_L_agrees n r71 (dw_cs Y r64.2) (fun (r72 : Int32 × dw_S) =>
if r72.1 = 0 then (j70 (r72.2, (c + 1457), (s + 117018)))
else (j66 ((1 : Int32), r72.2, (c + 1457), (s + 117018))))))))))))
def dq_lwT (n : Nat) (x2 ok : Int32) (Y : dw_S) (c s : Nat) (j4 : Int32 × Int32 × dw_S × Nat × Nat → Prop) : Prop :=
tw_jn (fun (a51 : Int32 × dw_S × Nat × Nat) =>
pw_lt a51.1 (fun (v53 : Int32) =>
pw_lt (x2 + (1 : Int32)) (fun (v54 : Int32) =>
j4 (v53, v54, a51.2.1, a51.2.2.1, a51.2.2.2)))) (fun (j52 : (Int32 × dw_S × Nat × Nat) → Prop) =>
tw_jn (fun (a55 : dw_S × Nat × Nat) =>
j52 ((0 : Int32), a55.1, a55.2.1, a55.2.2)) (fun (j56 : (dw_S × Nat × Nat) → Prop) =>
if ok = 0 then (j56 (Y, c, s))
else (pw_ck ((c + 1) ≤ dw_rc ∧ (s + 6) ≤ dw_rs) (
dw_P_L_load n (1 : Int32) Y (fun (r57 : Int32 × dw_S) =>
if ¬ r57.1 = (-2000000098 : Int32) then (j56 (r57.2, (c + 1), (s + 6)))
else (pw_ck (((c + 1) + 1) ≤ dw_rc ∧ ((s + 6) + 6) ≤ dw_rs) (
dw_P_L_pace n (0 : Int32) (0 : Int32) (8 : Int32) r57.2 (fun (r58 : Int32 × dw_S) =>
if ¬ r58.1 = (-2000000098 : Int32) then (j56 (r58.2, ((c + 1) + 1), ((s + 6) + 6)))
else (pw_ck ((((c + 1) + 1) + 1) ≤ dw_rc ∧ (((s + 6) + 6) + 6) ≤ dw_rs) (
dw_P_L_pace n (-1 : Int32) (0 : Int32) (0 : Int32) r58.2 (fun (r59 : Int32 × dw_S) =>
if ¬ r59.1 = (-2000000097 : Int32) then (j56 (r59.2, (((c + 1) + 1) + 1), (((s + 6) + 6) + 6)))
else (pw_ck (((((c + 1) + 1) + 1) + 1) ≤ dw_rc ∧ ((((s + 6) + 6) + 6) + 6) ≤ dw_rs) (
dw_P_L_walk n (4 : Int32) (0 : Int32) (0 : Int32) (0 : Int32) r59.2 (fun (r60 : Int32 × dw_S) =>
if ¬ r60.1 = (-2000000097 : Int32) then (j56 (r60.2, ((((c + 1) + 1) + 1) + 1), ((((s + 6) + 6) + 6) + 6)))
else (pw_ck ((((((c + 1) + 1) + 1) + 1) + 1) ≤ dw_rc ∧ (((((s + 6) + 6) + 6) + 6) + 6) ≤ dw_rs) (
dw_P_L_starts n (-1 : Int32) (0 : Int32) (0 : Int32) r60.2 (fun (r61 : Int32 × dw_S) =>
if ¬ r61.1 = (-2000000097 : Int32) then (j56 (r61.2, (((((c + 1) + 1) + 1) + 1) + 1), (((((s + 6) + 6) + 6) + 6) + 6)))
else (pw_ck (((((((c + 1) + 1) + 1) + 1) + 1) + 1) ≤ dw_rc ∧ ((((((s + 6) + 6) + 6) + 6) + 6) + 6) ≤ dw_rs) (
dw_P_L_part n (0 : Int32) (20 : Int32) r61.2 (fun (r62 : Int32 × dw_S) =>
if ¬ r62.1 = (-2000000097 : Int32) then (j56 (r62.2, ((((((c + 1) + 1) + 1) + 1) + 1) + 1), ((((((s + 6) + 6) + 6) + 6) + 6) + 6)))
else (pw_ck ((((((((c + 1) + 1) + 1) + 1) + 1) + 1) + 1) ≤ dw_rc ∧ (((((((s + 6) + 6) + 6) + 6) + 6) + 6) + 6) ≤ dw_rs) (
dw_P_L_distance n (20 : Int32) (0 : Int32) r62.2 (fun (r63 : Int32 × dw_S) =>
if ¬ r63.1 = (-2000000097 : Int32) then (j56 (r63.2, (((((((c + 1) + 1) + 1) + 1) + 1) + 1) + 1), (((((((s + 6) + 6) + 6) + 6) + 6) + 6) + 6)))
else (j52 ((1 : Int32), r63.2, (((((((c + 1) + 1) + 1) + 1) + 1) + 1) + 1), (((((((s + 6) + 6) + 6) + 6) + 6) + 6) + 6))))))))))))))))))))))))))
def dq_lwU (n q38 : Nat) (x2 ok done : Int32) (Y : dw_S) (c s : Nat) (j4 : Int32 × Int32 × dw_S × Nat × Nat → Prop) : Prop :=
pw_lt (0 : Int32) (fun (v46 : Int32) =>
pw_lp (fun (k48 : (Int32 × Int32 × Int32 × dw_S × Nat × Nat) → Prop) (a47 : Int32 × Int32 × Int32 × dw_S × Nat × Nat) =>
tw_jn (fun (a49 : Unit) =>
tw_jn (fun (a51 : Int32 × dw_S × Nat × Nat) =>
pw_lt a51.1 (fun (v53 : Int32) =>
pw_lt (x2 + (1 : Int32)) (fun (v54 : Int32) =>
j4 (v53, v54, a51.2.1, a51.2.2.1, a51.2.2.2)))) (fun (j52 : (Int32 × dw_S × Nat × Nat) → Prop) =>
tw_jn (fun (a55 : dw_S × Nat × Nat) =>
j52 ((0 : Int32), a55.1, a55.2.1, a55.2.2)) (fun (j56 : (dw_S × Nat × Nat) → Prop) =>
if a47.1 = 0 then (j56 (a47.2.2.2.1, a47.2.2.2.2.1, a47.2.2.2.2.2))
else (pw_ck ((a47.2.2.2.2.1 + 1) ≤ dw_rc ∧ (a47.2.2.2.2.2 + 6) ≤ dw_rs) (
dw_P_L_load n (1 : Int32) a47.2.2.2.1 (fun (r57 : Int32 × dw_S) =>
if ¬ r57.1 = (-2000000098 : Int32) then (j56 (r57.2, (a47.2.2.2.2.1 + 1), (a47.2.2.2.2.2 + 6)))
else (pw_ck (((a47.2.2.2.2.1 + 1) + 1) ≤ dw_rc ∧ ((a47.2.2.2.2.2 + 6) + 6) ≤ dw_rs) (
dw_P_L_pace n (0 : Int32) (0 : Int32) (8 : Int32) r57.2 (fun (r58 : Int32 × dw_S) =>
if ¬ r58.1 = (-2000000098 : Int32) then (j56 (r58.2, ((a47.2.2.2.2.1 + 1) + 1), ((a47.2.2.2.2.2 + 6) + 6)))
else (pw_ck ((((a47.2.2.2.2.1 + 1) + 1) + 1) ≤ dw_rc ∧ (((a47.2.2.2.2.2 + 6) + 6) + 6) ≤ dw_rs) (
dw_P_L_pace n (-1 : Int32) (0 : Int32) (0 : Int32) r58.2 (fun (r59 : Int32 × dw_S) =>
if ¬ r59.1 = (-2000000097 : Int32) then (j56 (r59.2, (((a47.2.2.2.2.1 + 1) + 1) + 1), (((a47.2.2.2.2.2 + 6) + 6) + 6)))
else (pw_ck (((((a47.2.2.2.2.1 + 1) + 1) + 1) + 1) ≤ dw_rc ∧ ((((a47.2.2.2.2.2 + 6) + 6) + 6) + 6) ≤ dw_rs) (
dw_P_L_walk n (4 : Int32) (0 : Int32) (0 : Int32) (0 : Int32) r59.2 (fun (r60 : Int32 × dw_S) =>
if ¬ r60.1 = (-2000000097 : Int32) then (j56 (r60.2, ((((a47.2.2.2.2.1 + 1) + 1) + 1) + 1), ((((a47.2.2.2.2.2 + 6) + 6) + 6) + 6)))
else (pw_ck ((((((a47.2.2.2.2.1 + 1) + 1) + 1) + 1) + 1) ≤ dw_rc ∧ (((((a47.2.2.2.2.2 + 6) + 6) + 6) + 6) + 6) ≤ dw_rs) (
dw_P_L_starts n (-1 : Int32) (0 : Int32) (0 : Int32) r60.2 (fun (r61 : Int32 × dw_S) =>
if ¬ r61.1 = (-2000000097 : Int32) then (j56 (r61.2, (((((a47.2.2.2.2.1 + 1) + 1) + 1) + 1) + 1), (((((a47.2.2.2.2.2 + 6) + 6) + 6) + 6) + 6)))
else (pw_ck (((((((a47.2.2.2.2.1 + 1) + 1) + 1) + 1) + 1) + 1) ≤ dw_rc ∧ ((((((a47.2.2.2.2.2 + 6) + 6) + 6) + 6) + 6) + 6) ≤ dw_rs) (
dw_P_L_part n (0 : Int32) (20 : Int32) r61.2 (fun (r62 : Int32 × dw_S) =>
if ¬ r62.1 = (-2000000097 : Int32) then (j56 (r62.2, ((((((a47.2.2.2.2.1 + 1) + 1) + 1) + 1) + 1) + 1), ((((((a47.2.2.2.2.2 + 6) + 6) + 6) + 6) + 6) + 6)))
else (pw_ck ((((((((a47.2.2.2.2.1 + 1) + 1) + 1) + 1) + 1) + 1) + 1) ≤ dw_rc ∧ (((((((a47.2.2.2.2.2 + 6) + 6) + 6) + 6) + 6) + 6) + 6) ≤ dw_rs) (
dw_P_L_distance n (20 : Int32) (0 : Int32) r62.2 (fun (r63 : Int32 × dw_S) =>
if ¬ r63.1 = (-2000000097 : Int32) then (j56 (r63.2, (((((((a47.2.2.2.2.1 + 1) + 1) + 1) + 1) + 1) + 1) + 1), (((((((a47.2.2.2.2.2 + 6) + 6) + 6) + 6) + 6) + 6) + 6)))
else (j52 ((1 : Int32), r63.2, (((((((a47.2.2.2.2.1 + 1) + 1) + 1) + 1) + 1) + 1) + 1), (((((((a47.2.2.2.2.2 + 6) + 6) + 6) + 6) + 6) + 6) + 6))))))))))))))))))))))))))) (fun (j50 : (Unit) → Prop) =>
if (8 : Int32) ≤ a47.2.2.1 then (j50 ())
else (if a47.2.1 ≤ a47.2.2.1 then (j50 ())
else (if a47.1 = 0 then (j50 ())
else (pw_ck (a47.2.2.2.2.1 ≤ dw_rc ∧ a47.2.2.2.2.2 ≤ dw_rs) (
pw_bd (tw_P_X11_undo n (dw_s a47.2.2.2.1)) (fun r64 =>
tw_jn (fun (a65 : Int32 × dw_S × Nat × Nat) =>
pw_lt a65.1 (fun (v67 : Int32) =>
pw_lt (a47.2.2.1 + (1 : Int32)) (fun (v68 : Int32) =>
k48 (v67, a47.2.1, v68, a65.2.1, a65.2.2.1, a65.2.2.2)))) (fun (j66 : (Int32 × dw_S × Nat × Nat) → Prop) =>
tw_jn (fun (a69 : dw_S × Nat × Nat) =>
j66 ((0 : Int32), a69.1, a69.2.1, a69.2.2)) (fun (j70 : (dw_S × Nat × Nat) → Prop) =>
if r64.1 < 0 then (j70 ((dw_cs a47.2.2.2.1 r64.2), a47.2.2.2.2.1, a47.2.2.2.2.2))
else (pw_ck (dw_is (dw_cs a47.2.2.2.1 r64.2) q38 25 ∧ tw_ok a47.2.2.1 (dw_l (dw_cs a47.2.2.2.1 r64.2) q38) = true) (
pw_nn (dw_r (dw_cs a47.2.2.2.1 r64.2) q38 (Int32.toNatClampNeg a47.2.2.1)) (fun (r71 : Nat) =>
pw_ck ((a47.2.2.2.2.1 + 1457) ≤ dw_rc ∧ (a47.2.2.2.2.2 + 117018) ≤ dw_rs) (
dw_P_L_agrees n r71 (dw_cs a47.2.2.2.1 r64.2) (fun (r72 : Int32 × dw_S) =>
if r72.1 = 0 then (j70 (r72.2, (a47.2.2.2.2.1 + 1457), (a47.2.2.2.2.2 + 117018)))
else (j66 ((1 : Int32), r72.2, (a47.2.2.2.2.1 + 1457), (a47.2.2.2.2.2 + 117018))))))))))))))))) n (ok, done, v46, Y, c, s))
def dq_lwC (n q23 r34 : Nat) (x2 v : Int32) (Y : dw_S) (c s : Nat) (j4 : Int32 × Int32 × dw_S × Nat × Nat → Prop) : Prop :=
pw_lt v (fun (v37 : Int32) =>
pw_ck ((¬ (9 : Int32) < 0 ∧ 9 ≤ 10000) ∧ (c + 1) ≤ dw_rc ∧ (s + 9) ≤ dw_rs) (
pw_al (dw_n Y) (fun (q38 : Nat) => pw_lt (dw_nw Y q38 25 9 (fun _ => 0) (fun _ => none)) (fun (Y39 : dw_S) =>
pw_lt (0 : Int32) (fun (v40 : Int32) =>
pw_lt (0 : Int32) (fun (v41 : Int32) =>
pw_lp (fun (k43 : (Int32 × Int32 × Int32 × dw_S × Nat × Nat) → Prop) (a42 : Int32 × Int32 × Int32 × dw_S × Nat × Nat) =>
tw_jn (fun (a44 : Unit) =>
pw_lt (0 : Int32) (fun (v46 : Int32) =>
pw_lp (fun (k48 : (Int32 × Int32 × Int32 × dw_S × Nat × Nat) → Prop) (a47 : Int32 × Int32 × Int32 × dw_S × Nat × Nat) =>
tw_jn (fun (a49 : Unit) =>
tw_jn (fun (a51 : Int32 × dw_S × Nat × Nat) =>
pw_lt a51.1 (fun (v53 : Int32) =>
pw_lt (x2 + (1 : Int32)) (fun (v54 : Int32) =>
j4 (v53, v54, a51.2.1, a51.2.2.1, a51.2.2.2)))) (fun (j52 : (Int32 × dw_S × Nat × Nat) → Prop) =>
tw_jn (fun (a55 : dw_S × Nat × Nat) =>
j52 ((0 : Int32), a55.1, a55.2.1, a55.2.2)) (fun (j56 : (dw_S × Nat × Nat) → Prop) =>
if a47.1 = 0 then (j56 (a47.2.2.2.1, a47.2.2.2.2.1, a47.2.2.2.2.2))
else (pw_ck ((a47.2.2.2.2.1 + 1) ≤ dw_rc ∧ (a47.2.2.2.2.2 + 6) ≤ dw_rs) (
dw_P_L_load n (1 : Int32) a47.2.2.2.1 (fun (r57 : Int32 × dw_S) =>
if ¬ r57.1 = (-2000000098 : Int32) then (j56 (r57.2, (a47.2.2.2.2.1 + 1), (a47.2.2.2.2.2 + 6)))
else (pw_ck (((a47.2.2.2.2.1 + 1) + 1) ≤ dw_rc ∧ ((a47.2.2.2.2.2 + 6) + 6) ≤ dw_rs) (
dw_P_L_pace n (0 : Int32) (0 : Int32) (8 : Int32) r57.2 (fun (r58 : Int32 × dw_S) =>
if ¬ r58.1 = (-2000000098 : Int32) then (j56 (r58.2, ((a47.2.2.2.2.1 + 1) + 1), ((a47.2.2.2.2.2 + 6) + 6)))
else (pw_ck ((((a47.2.2.2.2.1 + 1) + 1) + 1) ≤ dw_rc ∧ (((a47.2.2.2.2.2 + 6) + 6) + 6) ≤ dw_rs) (
dw_P_L_pace n (-1 : Int32) (0 : Int32) (0 : Int32) r58.2 (fun (r59 : Int32 × dw_S) =>
if ¬ r59.1 = (-2000000097 : Int32) then (j56 (r59.2, (((a47.2.2.2.2.1 + 1) + 1) + 1), (((a47.2.2.2.2.2 + 6) + 6) + 6)))
else (pw_ck (((((a47.2.2.2.2.1 + 1) + 1) + 1) + 1) ≤ dw_rc ∧ ((((a47.2.2.2.2.2 + 6) + 6) + 6) + 6) ≤ dw_rs) (
dw_P_L_walk n (4 : Int32) (0 : Int32) (0 : Int32) (0 : Int32) r59.2 (fun (r60 : Int32 × dw_S) =>
if ¬ r60.1 = (-2000000097 : Int32) then (j56 (r60.2, ((((a47.2.2.2.2.1 + 1) + 1) + 1) + 1), ((((a47.2.2.2.2.2 + 6) + 6) + 6) + 6)))
else (pw_ck ((((((a47.2.2.2.2.1 + 1) + 1) + 1) + 1) + 1) ≤ dw_rc ∧ (((((a47.2.2.2.2.2 + 6) + 6) + 6) + 6) + 6) ≤ dw_rs) (
dw_P_L_starts n (-1 : Int32) (0 : Int32) (0 : Int32) r60.2 (fun (r61 : Int32 × dw_S) =>
if ¬ r61.1 = (-2000000097 : Int32) then (j56 (r61.2, (((((a47.2.2.2.2.1 + 1) + 1) + 1) + 1) + 1), (((((a47.2.2.2.2.2 + 6) + 6) + 6) + 6) + 6)))
else (pw_ck (((((((a47.2.2.2.2.1 + 1) + 1) + 1) + 1) + 1) + 1) ≤ dw_rc ∧ ((((((a47.2.2.2.2.2 + 6) + 6) + 6) + 6) + 6) + 6) ≤ dw_rs) (
dw_P_L_part n (0 : Int32) (20 : Int32) r61.2 (fun (r62 : Int32 × dw_S) =>
if ¬ r62.1 = (-2000000097 : Int32) then (j56 (r62.2, ((((((a47.2.2.2.2.1 + 1) + 1) + 1) + 1) + 1) + 1), ((((((a47.2.2.2.2.2 + 6) + 6) + 6) + 6) + 6) + 6)))
else (pw_ck ((((((((a47.2.2.2.2.1 + 1) + 1) + 1) + 1) + 1) + 1) + 1) ≤ dw_rc ∧ (((((((a47.2.2.2.2.2 + 6) + 6) + 6) + 6) + 6) + 6) + 6) ≤ dw_rs) (
dw_P_L_distance n (20 : Int32) (0 : Int32) r62.2 (fun (r63 : Int32 × dw_S) =>
if ¬ r63.1 = (-2000000097 : Int32) then (j56 (r63.2, (((((((a47.2.2.2.2.1 + 1) + 1) + 1) + 1) + 1) + 1) + 1), (((((((a47.2.2.2.2.2 + 6) + 6) + 6) + 6) + 6) + 6) + 6)))
else (j52 ((1 : Int32), r63.2, (((((((a47.2.2.2.2.1 + 1) + 1) + 1) + 1) + 1) + 1) + 1), (((((((a47.2.2.2.2.2 + 6) + 6) + 6) + 6) + 6) + 6) + 6))))))))))))))))))))))))))) (fun (j50 : (Unit) → Prop) =>
if (8 : Int32) ≤ a47.2.2.1 then (j50 ())
else (if a47.2.1 ≤ a47.2.2.1 then (j50 ())
else (if a47.1 = 0 then (j50 ())
else (pw_ck (a47.2.2.2.2.1 ≤ dw_rc ∧ a47.2.2.2.2.2 ≤ dw_rs) (
pw_bd (tw_P_X11_undo n (dw_s a47.2.2.2.1)) (fun r64 =>
tw_jn (fun (a65 : Int32 × dw_S × Nat × Nat) =>
pw_lt a65.1 (fun (v67 : Int32) =>
pw_lt (a47.2.2.1 + (1 : Int32)) (fun (v68 : Int32) =>
k48 (v67, a47.2.1, v68, a65.2.1, a65.2.2.1, a65.2.2.2)))) (fun (j66 : (Int32 × dw_S × Nat × Nat) → Prop) =>
tw_jn (fun (a69 : dw_S × Nat × Nat) =>
j66 ((0 : Int32), a69.1, a69.2.1, a69.2.2)) (fun (j70 : (dw_S × Nat × Nat) → Prop) =>
if r64.1 < 0 then (j70 ((dw_cs a47.2.2.2.1 r64.2), a47.2.2.2.2.1, a47.2.2.2.2.2))
else (pw_ck (dw_is (dw_cs a47.2.2.2.1 r64.2) q38 25 ∧ tw_ok a47.2.2.1 (dw_l (dw_cs a47.2.2.2.1 r64.2) q38) = true) (
pw_nn (dw_r (dw_cs a47.2.2.2.1 r64.2) q38 (Int32.toNatClampNeg a47.2.2.1)) (fun (r71 : Nat) =>
pw_ck ((a47.2.2.2.2.1 + 1457) ≤ dw_rc ∧ (a47.2.2.2.2.2 + 117018) ≤ dw_rs) (
dw_P_L_agrees n r71 (dw_cs a47.2.2.2.1 r64.2) (fun (r72 : Int32 × dw_S) =>
if r72.1 = 0 then (j70 (r72.2, (a47.2.2.2.2.1 + 1457), (a47.2.2.2.2.2 + 117018)))
else (j66 ((1 : Int32), r72.2, (a47.2.2.2.2.1 + 1457), (a47.2.2.2.2.2 + 117018))))))))))))))))) n (a42.1, a42.2.1, v46, a42.2.2.2.1, a42.2.2.2.2.1, a42.2.2.2.2.2))) (fun (j45 : (Unit) → Prop) =>
if (14 : Int32) ≤ a42.2.2.1 then (j45 ())
else (if a42.1 = 0 then (j45 ())
else (pw_ck (dw_is a42.2.2.2.1 r34 13 ∧ (a42.2.2.2.2.1 + 21) ≤ dw_rc ∧ (a42.2.2.2.2.2 + 86) ≤ dw_rs) (
dw_P_X13_copy n r34 a42.2.2.2.1 (fun (r73 : Nat × dw_S) =>
pw_lt (1 : Int32) (fun (v74 : Int32) =>
pw_ck (dw_is r73.2 r34 13) (
pw_ck (dw_is r73.2 r34 13) (
pw_lt ((dw_i r73.2 r34 0) * (dw_i r73.2 r34 1)) (fun (v75 : Int32) =>
pw_ck (dw_is r73.2 q23 15 ∧ (a42.2.2.2.2.1 + 21) ≤ dw_rc ∧ (a42.2.2.2.2.2 + 86) ≤ dw_rs) (
dw_P_X15_below q23 (6 : Int32) r73.2 (fun (r76 : Int32 × dw_S) =>
tw_jn (fun (a77 : Int32 × Int32 × dw_S × Nat × Nat) =>
tw_jn (fun (a79 : Int32 × Int32 × dw_S) =>
tw_jn (fun (a81 : Int32 × dw_S × Nat × Nat) =>
pw_lt a81.1 (fun (v83 : Int32) =>
pw_lt (a79.2.1 + (1 : Int32)) (fun (v84 : Int32) =>
k43 (v83, a79.1, v84, a81.2.1, a81.2.2.1, a81.2.2.2)))) (fun (j82 : (Int32 × dw_S × Nat × Nat) → Prop) =>
tw_jn (fun (a85 : dw_S × Nat × Nat) =>
j82 ((0 : Int32), a85.1, a85.2.1, a85.2.2)) (fun (j86 : (dw_S × Nat × Nat) → Prop) =>
if a77.1 = 0 then (j86 (a79.2.2, a77.2.2.2.1, a77.2.2.2.2))
else (pw_ck ((a77.2.2.2.1 + 1457) ≤ dw_rc ∧ (a77.2.2.2.2 + 117018) ≤ dw_rs) (
dw_P_L_agrees n r34 a79.2.2 (fun (r87 : Int32 × dw_S) =>
if r87.1 = 0 then (j86 (r87.2, (a77.2.2.2.1 + 1457), (a77.2.2.2.2 + 117018)))
else (j82 ((1 : Int32), r87.2, (a77.2.2.2.1 + 1457), (a77.2.2.2.2 + 117018))))))))) (fun (j80 : (Int32 × Int32 × dw_S) → Prop) =>
if a77.2.1 = 0 then (j80 (a42.2.1, a42.2.2.1, a77.2.2.1))
else (pw_lt (8 : Int32) (fun (v88 : Int32) =>
pw_lp (fun (k90 : (Int32 × Int32 × Int32 × dw_S) → Prop) (a89 : Int32 × Int32 × Int32 × dw_S) =>
if a89.2.2.1 ≤ 0 then (pw_ck (dw_is a89.2.2.2 q38 25 ∧ tw_ok (0 : Int32) (dw_l a89.2.2.2 q38) = true ∧ ∀ v, (some r73.1) = some v → dw_is a89.2.2.2 v 13) (pw_lt (dw_pr a89.2.2.2 q38 0 (some r73.1)) (fun (Y91 : dw_S) =>
pw_lt (a89.1 + (1 : Int32)) (fun (v92 : Int32) =>
j80 (v92, a89.2.1, Y91)))))
else (pw_ck (dw_is a89.2.2.2 q38 25 ∧ tw_ok (a89.2.2.1 - (1 : Int32)) (dw_l a89.2.2.2 q38) = true) (
pw_ck (dw_is a89.2.2.2 q38 25 ∧ tw_ok a89.2.2.1 (dw_l a89.2.2.2 q38) = true ∧ ∀ v, (dw_r a89.2.2.2 q38 (Int32.toNatClampNeg (a89.2.2.1 - (1 : Int32)))) = some v → dw_is a89.2.2.2 v 13) (pw_lt (dw_pr a89.2.2.2 q38 (Int32.toNatClampNeg a89.2.2.1) (dw_r a89.2.2.2 q38 (Int32.toNatClampNeg (a89.2.2.1 - (1 : Int32))))) (fun (Y93 : dw_S) =>
pw_lt (a89.2.2.1 + (-1 : Int32)) (fun (v94 : Int32) =>
k90 (a89.1, a89.2.1, v94, Y93))))))) n (a42.2.1, a42.2.2.1, v88, a77.2.2.1))))) (fun (j78 : (Int32 × Int32 × dw_S × Nat × Nat) → Prop) =>
tw_jn (fun (a95 : Unit) =>
pw_ck (dw_is r76.2 q23 15 ∧ (a42.2.2.2.2.1 + 21) ≤ dw_rc ∧ (a42.2.2.2.2.2 + 86) ≤ dw_rs) (
dw_P_X15_below q23 v75 r76.2 (fun (r97 : Int32 × dw_S) =>
pw_lt r97.1 (fun (v98 : Int32) =>
pw_ck (dw_is r97.2 r34 13) (
pw_ck (dw_is r97.2 r34 13 ∧ ((a42.2.2.2.2.1 + 21) + 1) ≤ dw_rc ∧ ((a42.2.2.2.2.2 + 86) + 30) ≤ dw_rs) (
dw_P_X13_far n r34 (dw_i r97.2 r34 7) none r97.2 (fun (r99 : Nat × dw_S) =>
pw_ck (dw_is r99.2 r99.1 20 ∧ tw_ok v98 (dw_l r99.2 r99.1) = true) (
pw_lt (dw_i r99.2 r99.1 (Int32.toNatClampNeg v98)) (fun (v100 : Int32) =>
tw_jn (fun (a101 : Int32) =>
pw_lt a101 (fun (v103 : Int32) =>
tw_jn (fun (a104 : dw_S) =>
pw_ck (dw_is a104 r34 13) (
pw_ck (¬ (dw_i a104 r34 0) = 0) (
pw_ck (dw_is a104 r34 13) (
pw_ck (¬ (dw_i a104 r34 0) = 0) (
pw_ck ((((a42.2.2.2.2.1 + 21) + 1) + 1) ≤ dw_rc ∧ (((a42.2.2.2.2.2 + 86) + 30) + 6) ≤ dw_rs) (
dw_P_L_moveTo n (v98 - v98 / (dw_i a104 r34 0) * (dw_i a104 r34 0)) (v98 / (dw_i a104 r34 0)) a104 (fun (r106 : Int32 × dw_S) =>
tw_jn (fun (a107 : Int32) =>
tw_jn (fun (a109 : Int32) =>
pw_lt a109 (fun (v111 : Int32) =>
j78 (v111, v103, r106.2, (((a42.2.2.2.2.1 + 21) + 1) + 1), (((a42.2.2.2.2.2 + 86) + 30) + 6)))) (fun (j110 : (Int32) → Prop) =>
if ¬ r106.1 = a107 then (j110 (0 : Int32))
else (j110 (1 : Int32)))) (fun (j108 : (Int32) → Prop) =>
if v103 = 0 then (j108 (-1 : Int32))
else (j108 v100))))))))) (fun (j105 : (dw_S) → Prop) =>
if v103 = 0 then (j105 r99.2)
else (pw_ck (dw_is r99.2 r34 13) (pw_lt (dw_pi r99.2 r34 7 v98) (fun (Y112 : dw_S) =>
pw_ck (dw_is Y112 r34 13) (
pw_ck (dw_is Y112 r34 13) (pw_lt (dw_pi Y112 r34 8 ((dw_i Y112 r34 8) + v100)) (fun (Y113 : dw_S) =>
j105 Y113))))))))) (fun (j102 : (Int32) → Prop) =>
if (9999 : Int32) ≤ v100 then (j102 (0 : Int32))
else (j102 (1 : Int32)))))))))))) (fun (j96 : (Unit) → Prop) =>
if r76.1 = (0 : Int32) then (j96 ())
else (if r76.1 = (1 : Int32) then (j96 ())
else (if r76.1 = (2 : Int32) then (pw_ck ((a42.2.2.2.2.1 + 21) ≤ dw_rc ∧ (a42.2.2.2.2.2 + 86) ≤ dw_rs) (
pw_bd (tw_P_X11_dig (dw_s r76.2)) (fun r117 =>
pw_ck (dw_is (dw_cs r76.2 r117.2) r34 13 ∧ (a42.2.2.2.2.1 + 21) ≤ dw_rc ∧ (a42.2.2.2.2.2 + 86) ≤ dw_rs) (
dw_P_X13_digs r34 (dw_cs r76.2 r117.2) (fun (r118 : Int32 × dw_S) =>
tw_jn (fun (a119 : Int32) =>
pw_lt a119 (fun (v121 : Int32) =>
j78 (v121, v74, r118.2, (a42.2.2.2.2.1 + 21), (a42.2.2.2.2.2 + 86)))) (fun (j120 : (Int32) → Prop) =>
if ¬ r117.1 = r118.1 then (j120 (0 : Int32))
else (j120 (1 : Int32))))))))
else (if r76.1 = (3 : Int32) then (pw_ck (dw_is r76.2 r34 13) (
pw_nn (dw_r r76.2 r34 6) (fun (r123 : Nat) =>
pw_ck (dw_is r76.2 r123 24) (
pw_ck (dw_is r76.2 q23 15 ∧ (a42.2.2.2.2.1 + 21) ≤ dw_rc ∧ (a42.2.2.2.2.2 + 86) ≤ dw_rs) (
dw_P_X15_below q23 ((Int32.ofNat (dw_l r76.2 r123)) + (1 : Int32)) r76.2 (fun (r124 : Int32 × dw_S) =>
pw_lt r124.1 (fun (v125 : Int32) =>
pw_ck (dw_is r124.2 q23 15 ∧ (a42.2.2.2.2.1 + 21) ≤ dw_rc ∧ (a42.2.2.2.2.2 + 86) ≤ dw_rs) (
dw_P_X15_below q23 (2 : Int32) r124.2 (fun (r126 : Int32 × dw_S) =>
tw_jn (fun (a127 : Int32) =>
pw_lt a127 (fun (v129 : Int32) =>
pw_ck (dw_is r126.2 r34 13) (
pw_nn (dw_r r126.2 r34 6) (fun (r130 : Nat) =>
pw_ck (dw_is r126.2 r130 24) (
tw_jn (fun (a131 : Int32) =>
pw_lt a131 (fun (v133 : Int32) =>
tw_jn (fun (a134 : dw_S) =>
pw_ck (((a42.2.2.2.2.1 + 21) + 1) ≤ dw_rc ∧ ((a42.2.2.2.2.2 + 86) + 6) ≤ dw_rs) (
dw_P_L_use n v125 v129 a134 (fun (r136 : Int32 × dw_S) =>
tw_jn (fun (a137 : Int32 × dw_S × Nat × Nat) =>
tw_jn (fun (a139 : Int32) =>
pw_lt a139 (fun (v141 : Int32) =>
j78 (v141, v133, a137.2.1, a137.2.2.1, a137.2.2.2))) (fun (j140 : (Int32) → Prop) =>
if ¬ r136.1 = a137.1 then (j140 (0 : Int32))
else (j140 (1 : Int32)))) (fun (j138 : (Int32 × dw_S × Nat × Nat) → Prop) =>
if v133 = 0 then (j138 ((-2000000097 : Int32), r136.2, ((a42.2.2.2.2.1 + 21) + 1), ((a42.2.2.2.2.2 + 86) + 6)))
else (pw_ck (dw_is r136.2 r34 13 ∧ (((a42.2.2.2.2.1 + 21) + 1) + 95) ≤ dw_rc ∧ (((a42.2.2.2.2.2 + 86) + 6) + 8574) ≤ dw_rs) (
dw_P_X13_left n r34 r136.2 (fun (r142 : Nat × dw_S) =>
pw_ck ((((a42.2.2.2.2.1 + 21) + 1) + 95) ≤ dw_rc ∧ (((a42.2.2.2.2.2 + 86) + 6) + 8574) ≤ dw_rs) (
dw_P_X13_many n r142.1 r142.2 (fun (r143 : Int32) =>
j138 (r143, r142.2, (((a42.2.2.2.2.1 + 21) + 1) + 95), (((a42.2.2.2.2.2 + 86) + 6) + 8574))))))))))) (fun (j135 : (dw_S) → Prop) =>
if v133 = 0 then (j135 r126.2)
else (pw_ck (dw_is r126.2 r34 13) (
pw_nn (dw_r r126.2 r34 6) (fun (r144 : Nat) =>
pw_ck (dw_is r126.2 r144 24 ∧ tw_ok v125 (dw_l r126.2 r144) = true) (
pw_nn (dw_r r126.2 r144 (Int32.toNatClampNeg v125)) (fun (r145 : Nat) =>
pw_ck (tw_01 v129 = true) (
pw_ck (dw_is r126.2 r145 12) (pw_lt (dw_pi r126.2 r145 2 v129) (fun (Y146 : dw_S) =>
j135 Y146))))))))))) (fun (j132 : (Int32) → Prop) =>
if (Int32.ofNat (dw_l r126.2 r130)) ≤ v125 then (j132 (0 : Int32))
else (j132 (1 : Int32)))))))) (fun (j128 : (Int32) → Prop) =>
if ¬ r126.1 = 0 then (j128 (0 : Int32))
else (j128 (1 : Int32))))))))))))
else (if r76.1 = (4 : Int32) then (pw_ck (dw_is r76.2 q23 15 ∧ (a42.2.2.2.2.1 + 21) ≤ dw_rc ∧ (a42.2.2.2.2.2 + 86) ≤ dw_rs) (
dw_P_X15_below q23 (40 : Int32) r76.2 (fun (r148 : Int32 × dw_S) =>
pw_lt r148.1 (fun (v149 : Int32) =>
pw_ck (((a42.2.2.2.2.1 + 21) + 1) ≤ dw_rc ∧ ((a42.2.2.2.2.2 + 86) + 6) ≤ dw_rs) (
dw_P_L_hide n v149 r148.2 (fun (r150 : Int32 × dw_S) =>
pw_ck (dw_is r150.2 r34 13 ∧ (((a42.2.2.2.2.1 + 21) + 1) + 95) ≤ dw_rc ∧ (((a42.2.2.2.2.2 + 86) + 6) + 8574) ≤ dw_rs) (
dw_P_X13_hides n r34 v149 r150.2 (fun (r151 : Int32 × dw_S) =>
tw_jn (fun (a152 : Int32) =>
pw_lt a152 (fun (v154 : Int32) =>
j78 (v154, v74, r151.2, (((a42.2.2.2.2.1 + 21) + 1) + 95), (((a42.2.2.2.2.2 + 86) + 6) + 8574)))) (fun (j153 : (Int32) → Prop) =>
if ¬ r150.1 = r151.1 then (j153 (0 : Int32))
else (j153 (1 : Int32)))))))))))
else (pw_ck (dw_is r76.2 r34 13) (
pw_nn (dw_r r76.2 r34 5) (fun (r155 : Nat) =>
pw_ck (dw_is r76.2 r155 26) (
pw_ck (dw_is r76.2 q23 15 ∧ (a42.2.2.2.2.1 + 21) ≤ dw_rc ∧ (a42.2.2.2.2.2 + 86) ≤ dw_rs) (
dw_P_X15_below q23 ((Int32.ofNat (dw_l r76.2 r155)) + (1 : Int32)) r76.2 (fun (r156 : Int32 × dw_S) =>
pw_lt r156.1 (fun (v157 : Int32) =>
pw_ck (dw_is r156.2 q23 15 ∧ (a42.2.2.2.2.1 + 21) ≤ dw_rc ∧ (a42.2.2.2.2.2 + 86) ≤ dw_rs) (
dw_P_X15_below q23 (9 : Int32) r156.2 (fun (r158 : Int32 × dw_S) =>
pw_lt (r158.1 - (4 : Int32)) (fun (v159 : Int32) =>
pw_ck (dw_is r158.2 r34 13) (
pw_nn (dw_r r158.2 r34 5) (fun (r160 : Nat) =>
pw_ck (dw_is r158.2 r160 26) (
tw_jn (fun (a161 : Int32) =>
pw_lt a161 (fun (v163 : Int32) =>
tw_jn (fun (a164 : Int32) =>
pw_lt a164 (fun (v166 : Int32) =>
tw_jn (fun (a167 : Int32) =>
pw_lt a167 (fun (v169 : Int32) =>
tw_jn (fun (a170 : dw_S) =>
pw_ck (((a42.2.2.2.2.1 + 21) + 1) ≤ dw_rc ∧ ((a42.2.2.2.2.2 + 86) + 6) ≤ dw_rs) (
dw_P_L_turn n v157 v159 a170 (fun (r172 : Int32 × dw_S) =>
tw_jn (fun (a173 : Int32) =>
tw_jn (fun (a175 : Int32) =>
pw_lt a175 (fun (v177 : Int32) =>
j78 (v177, v166, r172.2, ((a42.2.2.2.2.1 + 21) + 1), ((a42.2.2.2.2.2 + 86) + 6)))) (fun (j176 : (Int32) → Prop) =>
if ¬ r172.1 = a173 then (j176 (0 : Int32))
else (j176 (1 : Int32)))) (fun (j174 : (Int32) → Prop) =>
if v166 = 0 then (if v163 = 0 then (j174 (-2000000097 : Int32))
else (j174 (-2000000098 : Int32)))
else (j174 v169))))) (fun (j171 : (dw_S) → Prop) =>
if v166 = 0 then (j171 r158.2)
else (pw_ck (dw_is r158.2 r34 13) (
pw_nn (dw_r r158.2 r34 5) (fun (r178 : Nat) =>
pw_ck (dw_is r158.2 r178 26 ∧ tw_ok v157 (dw_l r158.2 r178) = true) (
pw_nn (dw_r r158.2 r178 (Int32.toNatClampNeg v157)) (fun (r179 : Nat) =>
pw_ck (dw_is r158.2 r179 20 ∧ tw_ok (4 : Int32) (dw_l r158.2 r179) = true) (pw_lt (dw_pi r158.2 r179 4 v159) (fun (Y180 : dw_S) =>
j171 Y180)))))))))) (fun (j168 : (Int32) → Prop) =>
if v163 = 0 then (j168 (0 : Int32))
else (pw_ck (dw_is r158.2 r34 13) (
pw_nn (dw_r r158.2 r34 5) (fun (r181 : Nat) =>
pw_ck (dw_is r158.2 r181 26 ∧ tw_ok v157 (dw_l r158.2 r181) = true) (
pw_nn (dw_r r158.2 r181 (Int32.toNatClampNeg v157)) (fun (r182 : Nat) =>
pw_ck (dw_is r158.2 r182 20 ∧ tw_ok (4 : Int32) (dw_l r158.2 r182) = true) (
j168 (dw_i r158.2 r182 4)))))))))) (fun (j165 : (Int32) → Prop) =>
tw_jn (fun (a183 : Unit) =>
j165 (0 : Int32)) (fun (j184 : (Unit) → Prop) =>
if v163 = 0 then (j184 ())
else (pw_ck ((a42.2.2.2.2.1 + 21) ≤ dw_rc ∧ (a42.2.2.2.2.2 + 86) ≤ dw_rs) (
if (4 : Int32) ≤ (if 0 ≤ v159 then v159 else 0 - v159) then (j184 ())
else (j165 (1 : Int32)))))))) (fun (j162 : (Int32) → Prop) =>
if (Int32.ofNat (dw_l r158.2 r160)) ≤ v157 then (j162 (0 : Int32))
else (j162 (1 : Int32)))))))))))))))))))))))))))))))))) n (v37, v40, v41, Y39, (c + 1), (s + 9))))))))
def dq_lwB (n q21 q23 : Nat) (x2 v : Int32) (Y : dw_S) (c s : Nat) (j4 : Int32 × Int32 × dw_S × Nat × Nat → Prop) : Prop :=
pw_lt v (fun (v32 : Int32) =>
pw_ck ((c + 300) ≤ dw_rc ∧ (s + 2600) ≤ dw_rs) (
dw_P_L_randomIsland n q21 q23 Y (fun (r33 : Option Nat × dw_S) =>
pw_mt r33.1 (False) (fun (r34 : Nat) =>
tw_jn (fun (a35 : Int32 × dw_S × Nat × Nat) =>
pw_lt a35.1 (fun (v37 : Int32) =>
pw_ck ((¬ (9 : Int32) < 0 ∧ 9 ≤ 10000) ∧ (a35.2.2.1 + 1) ≤ dw_rc ∧ (a35.2.2.2 + 9) ≤ dw_rs) (
pw_al (dw_n a35.2.1) (fun (q38 : Nat) => pw_lt (dw_nw a35.2.1 q38 25 9 (fun _ => 0) (fun _ => none)) (fun (Y39 : dw_S) =>
pw_lt (0 : Int32) (fun (v40 : Int32) =>
pw_lt (0 : Int32) (fun (v41 : Int32) =>
pw_lp (fun (k43 : (Int32 × Int32 × Int32 × dw_S × Nat × Nat) → Prop) (a42 : Int32 × Int32 × Int32 × dw_S × Nat × Nat) =>
tw_jn (fun (a44 : Unit) =>
pw_lt (0 : Int32) (fun (v46 : Int32) =>
pw_lp (fun (k48 : (Int32 × Int32 × Int32 × dw_S × Nat × Nat) → Prop) (a47 : Int32 × Int32 × Int32 × dw_S × Nat × Nat) =>
tw_jn (fun (a49 : Unit) =>
tw_jn (fun (a51 : Int32 × dw_S × Nat × Nat) =>
pw_lt a51.1 (fun (v53 : Int32) =>
pw_lt (x2 + (1 : Int32)) (fun (v54 : Int32) =>
j4 (v53, v54, a51.2.1, a51.2.2.1, a51.2.2.2)))) (fun (j52 : (Int32 × dw_S × Nat × Nat) → Prop) =>
tw_jn (fun (a55 : dw_S × Nat × Nat) =>
j52 ((0 : Int32), a55.1, a55.2.1, a55.2.2)) (fun (j56 : (dw_S × Nat × Nat) → Prop) =>
if a47.1 = 0 then (j56 (a47.2.2.2.1, a47.2.2.2.2.1, a47.2.2.2.2.2))
else (pw_ck ((a47.2.2.2.2.1 + 1) ≤ dw_rc ∧ (a47.2.2.2.2.2 + 6) ≤ dw_rs) (
dw_P_L_load n (1 : Int32) a47.2.2.2.1 (fun (r57 : Int32 × dw_S) =>
if ¬ r57.1 = (-2000000098 : Int32) then (j56 (r57.2, (a47.2.2.2.2.1 + 1), (a47.2.2.2.2.2 + 6)))
else (pw_ck (((a47.2.2.2.2.1 + 1) + 1) ≤ dw_rc ∧ ((a47.2.2.2.2.2 + 6) + 6) ≤ dw_rs) (
dw_P_L_pace n (0 : Int32) (0 : Int32) (8 : Int32) r57.2 (fun (r58 : Int32 × dw_S) =>
if ¬ r58.1 = (-2000000098 : Int32) then (j56 (r58.2, ((a47.2.2.2.2.1 + 1) + 1), ((a47.2.2.2.2.2 + 6) + 6)))
else (pw_ck ((((a47.2.2.2.2.1 + 1) + 1) + 1) ≤ dw_rc ∧ (((a47.2.2.2.2.2 + 6) + 6) + 6) ≤ dw_rs) (
dw_P_L_pace n (-1 : Int32) (0 : Int32) (0 : Int32) r58.2 (fun (r59 : Int32 × dw_S) =>
if ¬ r59.1 = (-2000000097 : Int32) then (j56 (r59.2, (((a47.2.2.2.2.1 + 1) + 1) + 1), (((a47.2.2.2.2.2 + 6) + 6) + 6)))
else (pw_ck (((((a47.2.2.2.2.1 + 1) + 1) + 1) + 1) ≤ dw_rc ∧ ((((a47.2.2.2.2.2 + 6) + 6) + 6) + 6) ≤ dw_rs) (
dw_P_L_walk n (4 : Int32) (0 : Int32) (0 : Int32) (0 : Int32) r59.2 (fun (r60 : Int32 × dw_S) =>
if ¬ r60.1 = (-2000000097 : Int32) then (j56 (r60.2, ((((a47.2.2.2.2.1 + 1) + 1) + 1) + 1), ((((a47.2.2.2.2.2 + 6) + 6) + 6) + 6)))
else (pw_ck ((((((a47.2.2.2.2.1 + 1) + 1) + 1) + 1) + 1) ≤ dw_rc ∧ (((((a47.2.2.2.2.2 + 6) + 6) + 6) + 6) + 6) ≤ dw_rs) (
dw_P_L_starts n (-1 : Int32) (0 : Int32) (0 : Int32) r60.2 (fun (r61 : Int32 × dw_S) =>
if ¬ r61.1 = (-2000000097 : Int32) then (j56 (r61.2, (((((a47.2.2.2.2.1 + 1) + 1) + 1) + 1) + 1), (((((a47.2.2.2.2.2 + 6) + 6) + 6) + 6) + 6)))
else (pw_ck (((((((a47.2.2.2.2.1 + 1) + 1) + 1) + 1) + 1) + 1) ≤ dw_rc ∧ ((((((a47.2.2.2.2.2 + 6) + 6) + 6) + 6) + 6) + 6) ≤ dw_rs) (
dw_P_L_part n (0 : Int32) (20 : Int32) r61.2 (fun (r62 : Int32 × dw_S) =>
if ¬ r62.1 = (-2000000097 : Int32) then (j56 (r62.2, ((((((a47.2.2.2.2.1 + 1) + 1) + 1) + 1) + 1) + 1), ((((((a47.2.2.2.2.2 + 6) + 6) + 6) + 6) + 6) + 6)))
else (pw_ck ((((((((a47.2.2.2.2.1 + 1) + 1) + 1) + 1) + 1) + 1) + 1) ≤ dw_rc ∧ (((((((a47.2.2.2.2.2 + 6) + 6) + 6) + 6) + 6) + 6) + 6) ≤ dw_rs) (
dw_P_L_distance n (20 : Int32) (0 : Int32) r62.2 (fun (r63 : Int32 × dw_S) =>
if ¬ r63.1 = (-2000000097 : Int32) then (j56 (r63.2, (((((((a47.2.2.2.2.1 + 1) + 1) + 1) + 1) + 1) + 1) + 1), (((((((a47.2.2.2.2.2 + 6) + 6) + 6) + 6) + 6) + 6) + 6)))
else (j52 ((1 : Int32), r63.2, (((((((a47.2.2.2.2.1 + 1) + 1) + 1) + 1) + 1) + 1) + 1), (((((((a47.2.2.2.2.2 + 6) + 6) + 6) + 6) + 6) + 6) + 6))))))))))))))))))))))))))) (fun (j50 : (Unit) → Prop) =>
if (8 : Int32) ≤ a47.2.2.1 then (j50 ())
else (if a47.2.1 ≤ a47.2.2.1 then (j50 ())
else (if a47.1 = 0 then (j50 ())
else (pw_ck (a47.2.2.2.2.1 ≤ dw_rc ∧ a47.2.2.2.2.2 ≤ dw_rs) (
pw_bd (tw_P_X11_undo n (dw_s a47.2.2.2.1)) (fun r64 =>
tw_jn (fun (a65 : Int32 × dw_S × Nat × Nat) =>
pw_lt a65.1 (fun (v67 : Int32) =>
pw_lt (a47.2.2.1 + (1 : Int32)) (fun (v68 : Int32) =>
k48 (v67, a47.2.1, v68, a65.2.1, a65.2.2.1, a65.2.2.2)))) (fun (j66 : (Int32 × dw_S × Nat × Nat) → Prop) =>
tw_jn (fun (a69 : dw_S × Nat × Nat) =>
j66 ((0 : Int32), a69.1, a69.2.1, a69.2.2)) (fun (j70 : (dw_S × Nat × Nat) → Prop) =>
if r64.1 < 0 then (j70 ((dw_cs a47.2.2.2.1 r64.2), a47.2.2.2.2.1, a47.2.2.2.2.2))
else (pw_ck (dw_is (dw_cs a47.2.2.2.1 r64.2) q38 25 ∧ tw_ok a47.2.2.1 (dw_l (dw_cs a47.2.2.2.1 r64.2) q38) = true) (
pw_nn (dw_r (dw_cs a47.2.2.2.1 r64.2) q38 (Int32.toNatClampNeg a47.2.2.1)) (fun (r71 : Nat) =>
pw_ck ((a47.2.2.2.2.1 + 1457) ≤ dw_rc ∧ (a47.2.2.2.2.2 + 117018) ≤ dw_rs) (
dw_P_L_agrees n r71 (dw_cs a47.2.2.2.1 r64.2) (fun (r72 : Int32 × dw_S) =>
if r72.1 = 0 then (j70 (r72.2, (a47.2.2.2.2.1 + 1457), (a47.2.2.2.2.2 + 117018)))
else (j66 ((1 : Int32), r72.2, (a47.2.2.2.2.1 + 1457), (a47.2.2.2.2.2 + 117018))))))))))))))))) n (a42.1, a42.2.1, v46, a42.2.2.2.1, a42.2.2.2.2.1, a42.2.2.2.2.2))) (fun (j45 : (Unit) → Prop) =>
if (14 : Int32) ≤ a42.2.2.1 then (j45 ())
else (if a42.1 = 0 then (j45 ())
else (pw_ck (dw_is a42.2.2.2.1 r34 13 ∧ (a42.2.2.2.2.1 + 21) ≤ dw_rc ∧ (a42.2.2.2.2.2 + 86) ≤ dw_rs) (
dw_P_X13_copy n r34 a42.2.2.2.1 (fun (r73 : Nat × dw_S) =>
pw_lt (1 : Int32) (fun (v74 : Int32) =>
pw_ck (dw_is r73.2 r34 13) (
pw_ck (dw_is r73.2 r34 13) (
pw_lt ((dw_i r73.2 r34 0) * (dw_i r73.2 r34 1)) (fun (v75 : Int32) =>
pw_ck (dw_is r73.2 q23 15 ∧ (a42.2.2.2.2.1 + 21) ≤ dw_rc ∧ (a42.2.2.2.2.2 + 86) ≤ dw_rs) (
dw_P_X15_below q23 (6 : Int32) r73.2 (fun (r76 : Int32 × dw_S) =>
tw_jn (fun (a77 : Int32 × Int32 × dw_S × Nat × Nat) =>
tw_jn (fun (a79 : Int32 × Int32 × dw_S) =>
tw_jn (fun (a81 : Int32 × dw_S × Nat × Nat) =>
pw_lt a81.1 (fun (v83 : Int32) =>
pw_lt (a79.2.1 + (1 : Int32)) (fun (v84 : Int32) =>
k43 (v83, a79.1, v84, a81.2.1, a81.2.2.1, a81.2.2.2)))) (fun (j82 : (Int32 × dw_S × Nat × Nat) → Prop) =>
tw_jn (fun (a85 : dw_S × Nat × Nat) =>
j82 ((0 : Int32), a85.1, a85.2.1, a85.2.2)) (fun (j86 : (dw_S × Nat × Nat) → Prop) =>
if a77.1 = 0 then (j86 (a79.2.2, a77.2.2.2.1, a77.2.2.2.2))
else (pw_ck ((a77.2.2.2.1 + 1457) ≤ dw_rc ∧ (a77.2.2.2.2 + 117018) ≤ dw_rs) (
dw_P_L_agrees n r34 a79.2.2 (fun (r87 : Int32 × dw_S) =>
if r87.1 = 0 then (j86 (r87.2, (a77.2.2.2.1 + 1457), (a77.2.2.2.2 + 117018)))
else (j82 ((1 : Int32), r87.2, (a77.2.2.2.1 + 1457), (a77.2.2.2.2 + 117018))))))))) (fun (j80 : (Int32 × Int32 × dw_S) → Prop) =>
if a77.2.1 = 0 then (j80 (a42.2.1, a42.2.2.1, a77.2.2.1))
else (pw_lt (8 : Int32) (fun (v88 : Int32) =>
pw_lp (fun (k90 : (Int32 × Int32 × Int32 × dw_S) → Prop) (a89 : Int32 × Int32 × Int32 × dw_S) =>
if a89.2.2.1 ≤ 0 then (pw_ck (dw_is a89.2.2.2 q38 25 ∧ tw_ok (0 : Int32) (dw_l a89.2.2.2 q38) = true ∧ ∀ v, (some r73.1) = some v → dw_is a89.2.2.2 v 13) (pw_lt (dw_pr a89.2.2.2 q38 0 (some r73.1)) (fun (Y91 : dw_S) =>
pw_lt (a89.1 + (1 : Int32)) (fun (v92 : Int32) =>
j80 (v92, a89.2.1, Y91)))))
else (pw_ck (dw_is a89.2.2.2 q38 25 ∧ tw_ok (a89.2.2.1 - (1 : Int32)) (dw_l a89.2.2.2 q38) = true) (
pw_ck (dw_is a89.2.2.2 q38 25 ∧ tw_ok a89.2.2.1 (dw_l a89.2.2.2 q38) = true ∧ ∀ v, (dw_r a89.2.2.2 q38 (Int32.toNatClampNeg (a89.2.2.1 - (1 : Int32)))) = some v → dw_is a89.2.2.2 v 13) (pw_lt (dw_pr a89.2.2.2 q38 (Int32.toNatClampNeg a89.2.2.1) (dw_r a89.2.2.2 q38 (Int32.toNatClampNeg (a89.2.2.1 - (1 : Int32))))) (fun (Y93 : dw_S) =>
pw_lt (a89.2.2.1 + (-1 : Int32)) (fun (v94 : Int32) =>
k90 (a89.1, a89.2.1, v94, Y93))))))) n (a42.2.1, a42.2.2.1, v88, a77.2.2.1))))) (fun (j78 : (Int32 × Int32 × dw_S × Nat × Nat) → Prop) =>
tw_jn (fun (a95 : Unit) =>
pw_ck (dw_is r76.2 q23 15 ∧ (a42.2.2.2.2.1 + 21) ≤ dw_rc ∧ (a42.2.2.2.2.2 + 86) ≤ dw_rs) (
dw_P_X15_below q23 v75 r76.2 (fun (r97 : Int32 × dw_S) =>
pw_lt r97.1 (fun (v98 : Int32) =>
pw_ck (dw_is r97.2 r34 13) (
pw_ck (dw_is r97.2 r34 13 ∧ ((a42.2.2.2.2.1 + 21) + 1) ≤ dw_rc ∧ ((a42.2.2.2.2.2 + 86) + 30) ≤ dw_rs) (
dw_P_X13_far n r34 (dw_i r97.2 r34 7) none r97.2 (fun (r99 : Nat × dw_S) =>
pw_ck (dw_is r99.2 r99.1 20 ∧ tw_ok v98 (dw_l r99.2 r99.1) = true) (
pw_lt (dw_i r99.2 r99.1 (Int32.toNatClampNeg v98)) (fun (v100 : Int32) =>
tw_jn (fun (a101 : Int32) =>
pw_lt a101 (fun (v103 : Int32) =>
tw_jn (fun (a104 : dw_S) =>
pw_ck (dw_is a104 r34 13) (
pw_ck (¬ (dw_i a104 r34 0) = 0) (
pw_ck (dw_is a104 r34 13) (
pw_ck (¬ (dw_i a104 r34 0) = 0) (
pw_ck ((((a42.2.2.2.2.1 + 21) + 1) + 1) ≤ dw_rc ∧ (((a42.2.2.2.2.2 + 86) + 30) + 6) ≤ dw_rs) (
dw_P_L_moveTo n (v98 - v98 / (dw_i a104 r34 0) * (dw_i a104 r34 0)) (v98 / (dw_i a104 r34 0)) a104 (fun (r106 : Int32 × dw_S) =>
tw_jn (fun (a107 : Int32) =>
tw_jn (fun (a109 : Int32) =>
pw_lt a109 (fun (v111 : Int32) =>
j78 (v111, v103, r106.2, (((a42.2.2.2.2.1 + 21) + 1) + 1), (((a42.2.2.2.2.2 + 86) + 30) + 6)))) (fun (j110 : (Int32) → Prop) =>
if ¬ r106.1 = a107 then (j110 (0 : Int32))
else (j110 (1 : Int32)))) (fun (j108 : (Int32) → Prop) =>
if v103 = 0 then (j108 (-1 : Int32))
else (j108 v100))))))))) (fun (j105 : (dw_S) → Prop) =>
if v103 = 0 then (j105 r99.2)
else (pw_ck (dw_is r99.2 r34 13) (pw_lt (dw_pi r99.2 r34 7 v98) (fun (Y112 : dw_S) =>
pw_ck (dw_is Y112 r34 13) (
pw_ck (dw_is Y112 r34 13) (pw_lt (dw_pi Y112 r34 8 ((dw_i Y112 r34 8) + v100)) (fun (Y113 : dw_S) =>
j105 Y113))))))))) (fun (j102 : (Int32) → Prop) =>
if (9999 : Int32) ≤ v100 then (j102 (0 : Int32))
else (j102 (1 : Int32)))))))))))) (fun (j96 : (Unit) → Prop) =>
if r76.1 = (0 : Int32) then (j96 ())
else (if r76.1 = (1 : Int32) then (j96 ())
else (if r76.1 = (2 : Int32) then (pw_ck ((a42.2.2.2.2.1 + 21) ≤ dw_rc ∧ (a42.2.2.2.2.2 + 86) ≤ dw_rs) (
pw_bd (tw_P_X11_dig (dw_s r76.2)) (fun r117 =>
pw_ck (dw_is (dw_cs r76.2 r117.2) r34 13 ∧ (a42.2.2.2.2.1 + 21) ≤ dw_rc ∧ (a42.2.2.2.2.2 + 86) ≤ dw_rs) (
dw_P_X13_digs r34 (dw_cs r76.2 r117.2) (fun (r118 : Int32 × dw_S) =>
tw_jn (fun (a119 : Int32) =>
pw_lt a119 (fun (v121 : Int32) =>
j78 (v121, v74, r118.2, (a42.2.2.2.2.1 + 21), (a42.2.2.2.2.2 + 86)))) (fun (j120 : (Int32) → Prop) =>
if ¬ r117.1 = r118.1 then (j120 (0 : Int32))
else (j120 (1 : Int32))))))))
else (if r76.1 = (3 : Int32) then (pw_ck (dw_is r76.2 r34 13) (
pw_nn (dw_r r76.2 r34 6) (fun (r123 : Nat) =>
pw_ck (dw_is r76.2 r123 24) (
pw_ck (dw_is r76.2 q23 15 ∧ (a42.2.2.2.2.1 + 21) ≤ dw_rc ∧ (a42.2.2.2.2.2 + 86) ≤ dw_rs) (
dw_P_X15_below q23 ((Int32.ofNat (dw_l r76.2 r123)) + (1 : Int32)) r76.2 (fun (r124 : Int32 × dw_S) =>
pw_lt r124.1 (fun (v125 : Int32) =>
pw_ck (dw_is r124.2 q23 15 ∧ (a42.2.2.2.2.1 + 21) ≤ dw_rc ∧ (a42.2.2.2.2.2 + 86) ≤ dw_rs) (
dw_P_X15_below q23 (2 : Int32) r124.2 (fun (r126 : Int32 × dw_S) =>
tw_jn (fun (a127 : Int32) =>
pw_lt a127 (fun (v129 : Int32) =>
pw_ck (dw_is r126.2 r34 13) (
pw_nn (dw_r r126.2 r34 6) (fun (r130 : Nat) =>
pw_ck (dw_is r126.2 r130 24) (
tw_jn (fun (a131 : Int32) =>
pw_lt a131 (fun (v133 : Int32) =>
tw_jn (fun (a134 : dw_S) =>
pw_ck (((a42.2.2.2.2.1 + 21) + 1) ≤ dw_rc ∧ ((a42.2.2.2.2.2 + 86) + 6) ≤ dw_rs) (
dw_P_L_use n v125 v129 a134 (fun (r136 : Int32 × dw_S) =>
tw_jn (fun (a137 : Int32 × dw_S × Nat × Nat) =>
tw_jn (fun (a139 : Int32) =>
pw_lt a139 (fun (v141 : Int32) =>
j78 (v141, v133, a137.2.1, a137.2.2.1, a137.2.2.2))) (fun (j140 : (Int32) → Prop) =>
if ¬ r136.1 = a137.1 then (j140 (0 : Int32))
else (j140 (1 : Int32)))) (fun (j138 : (Int32 × dw_S × Nat × Nat) → Prop) =>
if v133 = 0 then (j138 ((-2000000097 : Int32), r136.2, ((a42.2.2.2.2.1 + 21) + 1), ((a42.2.2.2.2.2 + 86) + 6)))
else (pw_ck (dw_is r136.2 r34 13 ∧ (((a42.2.2.2.2.1 + 21) + 1) + 95) ≤ dw_rc ∧ (((a42.2.2.2.2.2 + 86) + 6) + 8574) ≤ dw_rs) (
dw_P_X13_left n r34 r136.2 (fun (r142 : Nat × dw_S) =>
pw_ck ((((a42.2.2.2.2.1 + 21) + 1) + 95) ≤ dw_rc ∧ (((a42.2.2.2.2.2 + 86) + 6) + 8574) ≤ dw_rs) (
dw_P_X13_many n r142.1 r142.2 (fun (r143 : Int32) =>
j138 (r143, r142.2, (((a42.2.2.2.2.1 + 21) + 1) + 95), (((a42.2.2.2.2.2 + 86) + 6) + 8574))))))))))) (fun (j135 : (dw_S) → Prop) =>
if v133 = 0 then (j135 r126.2)
else (pw_ck (dw_is r126.2 r34 13) (
pw_nn (dw_r r126.2 r34 6) (fun (r144 : Nat) =>
pw_ck (dw_is r126.2 r144 24 ∧ tw_ok v125 (dw_l r126.2 r144) = true) (
pw_nn (dw_r r126.2 r144 (Int32.toNatClampNeg v125)) (fun (r145 : Nat) =>
pw_ck (tw_01 v129 = true) (
pw_ck (dw_is r126.2 r145 12) (pw_lt (dw_pi r126.2 r145 2 v129) (fun (Y146 : dw_S) =>
j135 Y146))))))))))) (fun (j132 : (Int32) → Prop) =>
if (Int32.ofNat (dw_l r126.2 r130)) ≤ v125 then (j132 (0 : Int32))
else (j132 (1 : Int32)))))))) (fun (j128 : (Int32) → Prop) =>
if ¬ r126.1 = 0 then (j128 (0 : Int32))
else (j128 (1 : Int32))))))))))))
else (if r76.1 = (4 : Int32) then (pw_ck (dw_is r76.2 q23 15 ∧ (a42.2.2.2.2.1 + 21) ≤ dw_rc ∧ (a42.2.2.2.2.2 + 86) ≤ dw_rs) (
dw_P_X15_below q23 (40 : Int32) r76.2 (fun (r148 : Int32 × dw_S) =>
pw_lt r148.1 (fun (v149 : Int32) =>
pw_ck (((a42.2.2.2.2.1 + 21) + 1) ≤ dw_rc ∧ ((a42.2.2.2.2.2 + 86) + 6) ≤ dw_rs) (
dw_P_L_hide n v149 r148.2 (fun (r150 : Int32 × dw_S) =>
pw_ck (dw_is r150.2 r34 13 ∧ (((a42.2.2.2.2.1 + 21) + 1) + 95) ≤ dw_rc ∧ (((a42.2.2.2.2.2 + 86) + 6) + 8574) ≤ dw_rs) (
dw_P_X13_hides n r34 v149 r150.2 (fun (r151 : Int32 × dw_S) =>
tw_jn (fun (a152 : Int32) =>
pw_lt a152 (fun (v154 : Int32) =>
j78 (v154, v74, r151.2, (((a42.2.2.2.2.1 + 21) + 1) + 95), (((a42.2.2.2.2.2 + 86) + 6) + 8574)))) (fun (j153 : (Int32) → Prop) =>
if ¬ r150.1 = r151.1 then (j153 (0 : Int32))
else (j153 (1 : Int32)))))))))))
else (pw_ck (dw_is r76.2 r34 13) (
pw_nn (dw_r r76.2 r34 5) (fun (r155 : Nat) =>
pw_ck (dw_is r76.2 r155 26) (
pw_ck (dw_is r76.2 q23 15 ∧ (a42.2.2.2.2.1 + 21) ≤ dw_rc ∧ (a42.2.2.2.2.2 + 86) ≤ dw_rs) (
dw_P_X15_below q23 ((Int32.ofNat (dw_l r76.2 r155)) + (1 : Int32)) r76.2 (fun (r156 : Int32 × dw_S) =>
pw_lt r156.1 (fun (v157 : Int32) =>
pw_ck (dw_is r156.2 q23 15 ∧ (a42.2.2.2.2.1 + 21) ≤ dw_rc ∧ (a42.2.2.2.2.2 + 86) ≤ dw_rs) (
dw_P_X15_below q23 (9 : Int32) r156.2 (fun (r158 : Int32 × dw_S) =>
pw_lt (r158.1 - (4 : Int32)) (fun (v159 : Int32) =>
pw_ck (dw_is r158.2 r34 13) (
pw_nn (dw_r r158.2 r34 5) (fun (r160 : Nat) =>
pw_ck (dw_is r158.2 r160 26) (
tw_jn (fun (a161 : Int32) =>
pw_lt a161 (fun (v163 : Int32) =>
tw_jn (fun (a164 : Int32) =>
pw_lt a164 (fun (v166 : Int32) =>
tw_jn (fun (a167 : Int32) =>
pw_lt a167 (fun (v169 : Int32) =>
tw_jn (fun (a170 : dw_S) =>
pw_ck (((a42.2.2.2.2.1 + 21) + 1) ≤ dw_rc ∧ ((a42.2.2.2.2.2 + 86) + 6) ≤ dw_rs) (
dw_P_L_turn n v157 v159 a170 (fun (r172 : Int32 × dw_S) =>
tw_jn (fun (a173 : Int32) =>
tw_jn (fun (a175 : Int32) =>
pw_lt a175 (fun (v177 : Int32) =>
j78 (v177, v166, r172.2, ((a42.2.2.2.2.1 + 21) + 1), ((a42.2.2.2.2.2 + 86) + 6)))) (fun (j176 : (Int32) → Prop) =>
if ¬ r172.1 = a173 then (j176 (0 : Int32))
else (j176 (1 : Int32)))) (fun (j174 : (Int32) → Prop) =>
if v166 = 0 then (if v163 = 0 then (j174 (-2000000097 : Int32))
else (j174 (-2000000098 : Int32)))
else (j174 v169))))) (fun (j171 : (dw_S) → Prop) =>
if v166 = 0 then (j171 r158.2)
else (pw_ck (dw_is r158.2 r34 13) (
pw_nn (dw_r r158.2 r34 5) (fun (r178 : Nat) =>
pw_ck (dw_is r158.2 r178 26 ∧ tw_ok v157 (dw_l r158.2 r178) = true) (
pw_nn (dw_r r158.2 r178 (Int32.toNatClampNeg v157)) (fun (r179 : Nat) =>
pw_ck (dw_is r158.2 r179 20 ∧ tw_ok (4 : Int32) (dw_l r158.2 r179) = true) (pw_lt (dw_pi r158.2 r179 4 v159) (fun (Y180 : dw_S) =>
j171 Y180)))))))))) (fun (j168 : (Int32) → Prop) =>
if v163 = 0 then (j168 (0 : Int32))
else (pw_ck (dw_is r158.2 r34 13) (
pw_nn (dw_r r158.2 r34 5) (fun (r181 : Nat) =>
pw_ck (dw_is r158.2 r181 26 ∧ tw_ok v157 (dw_l r158.2 r181) = true) (
pw_nn (dw_r r158.2 r181 (Int32.toNatClampNeg v157)) (fun (r182 : Nat) =>
pw_ck (dw_is r158.2 r182 20 ∧ tw_ok (4 : Int32) (dw_l r158.2 r182) = true) (
j168 (dw_i r158.2 r182 4)))))))))) (fun (j165 : (Int32) → Prop) =>
tw_jn (fun (a183 : Unit) =>
j165 (0 : Int32)) (fun (j184 : (Unit) → Prop) =>
if v163 = 0 then (j184 ())
else (pw_ck ((a42.2.2.2.2.1 + 21) ≤ dw_rc ∧ (a42.2.2.2.2.2 + 86) ≤ dw_rs) (
if (4 : Int32) ≤ (if 0 ≤ v159 then v159 else 0 - v159) then (j184 ())
else (j165 (1 : Int32)))))))) (fun (j162 : (Int32) → Prop) =>
if (Int32.ofNat (dw_l r158.2 r160)) ≤ v157 then (j162 (0 : Int32))
else (j162 (1 : Int32)))))))))))))))))))))))))))))))))) n (v37, v40, v41, Y39, (a35.2.2.1 + 1), (a35.2.2.2 + 9))))))))) (fun (j36 : (Int32 × dw_S × Nat × Nat) → Prop) =>
tw_jn (fun (a186 : dw_S × Nat × Nat) =>
j36 ((0 : Int32), a186.1, a186.2.1, a186.2.2)) (fun (j187 : (dw_S × Nat × Nat) → Prop) =>
if v32 = 0 then (j187 (r33.2, (c + 300), (s + 2600)))
else (pw_ck (((c + 300) + 1457) ≤ dw_rc ∧ ((s + 2600) + 117018) ≤ dw_rs) (
dw_P_L_agrees n r34 r33.2 (fun (r188 : Int32 × dw_S) =>
if r188.1 = 0 then (j187 (r188.2, ((c + 300) + 1457), ((s + 2600) + 117018)))
else (j36 ((1 : Int32), r188.2, ((c + 300) + 1457), ((s + 2600) + 117018))))))))))))
section DQMX
variable {Y Y' Y'' : dw_S} {fx S0 : Nat → Prop} {w h nb nc m n u i0 th r q38 d c s : Nat} {t t' : Nat → Nat} {K K' : Nat → Nat → Nat} {R R' : Nat → Nat → Int32} {κ : Nat → Nat} {a a' : Nat → Int32} {hist : Nat → Nat → Int32} {buf : Nat → Nat} {cnt : Int32}
/-- the row of the islands before -/
def dq_BF (Y : dw_S) (q38 m : Nat) (t : Nat → Nat) : Prop := dq_A1 Y q38 25 9 ∧ (∀ j, j < 9 → ∀ v, dw_r Y q38 j = some v → dw_is Y v 13) ∧ ∀ j, j < m → dw_r Y q38 j = some (t (j + 1))
theorem dq_BF_fr {Si Sr : Nat → Nat → Prop} (B : dq_BF Y q38 m t) (F : dq_fr Si Sr Y Y') (hq : ∀ j, ¬ Sr q38 j) : dq_BF Y' q38 m t := by
  obtain ⟨b1, b2, b3⟩ := B
  have e : ∀ j, dw_r Y' q38 j = dw_r Y q38 j := fun j => F.2.2.2.2 q38 j b1.1.1 (hq j)
  exact ⟨dq_A1_fr F b1, fun j hj v hv => by rw [e] at hv; exact dq_is_fr F (b2 j hj v hv), fun j hj => (e j).trans (b3 j hj)⟩
/-- what stands through the changes -/
def dq_MS (fx : Nat → Prop) (w h nb r q38 : Nat) (Y : dw_S) : Prop := dw_is Y r 15 ∧ fx r ∧ fx q38 ∧ dq_RD w h ∧ nb ≤ 2 ∧ 442 ≤ dw_n Y ∧ r ≠ q38
theorem dq_MS_fr {Si Sr : Nat → Nat → Prop} (M : dq_MS fx w h nb r q38 Y) (F : dq_fr Si Sr Y Y') : dq_MS fx w h nb r q38 Y' := by
  obtain ⟨m1, m2, m3, m4, m5, m6, m7⟩ := M
  exact ⟨dq_is_fr F m1, m2, m3, m4, m5, Nat.le_trans m6 F.2.1, m7⟩
/-- between the changes -/
def dq_MI (fx S0 : Nat → Prop) (w h nb nc th r q38 d : Nat) (Y : dw_S) : Prop := dq_MS fx w h nb r q38 Y ∧ ∃ t K R hist buf, dq_SEP fx S0 w h nb nc (min d 8) t K R Y ∧ t 0 = th ∧ pu_IC (dw_s Y) w h nb nc (R 0) (min (1 + d) 8) hist 0 buf (-1) ∧ (∀ j, j < min d 8 → hist (min (1 + d) 8 - 1 - j) = R (j + 1)) ∧ dq_BF Y q38 (min d 8) t
/-- an island agrees, and all stays -/
theorem dq_ag0 {Q : Int32 × dw_S → Prop} {cn : Nat} {a0 : Nat → Int32} (H : dq_SEP fx S0 w h nb nc m t K R Y) (h0 : i0 ≤ m) (M : dq_MS fx w h nb r q38 Y) (B : dq_BF Y q38 m t') (J : pu_IC (dw_s Y) w h nb nc (R i0) cn hist 0 buf (-1)) (hn : 700000 < n) (hQ : ∀ Y', dq_SEP fx S0 w h nb nc m t K R Y' → dq_MS fx w h nb r q38 Y' → dq_BF Y' q38 m t' → pu_IC (dw_s Y') w h nb nc (R i0) cn hist 0 buf (-1) → Q (1, Y')) : dw_P_L_agrees n (t i0) Y Q := by
  obtain ⟨I, S, W, s0, o0⟩ := H.2.1 i0 h0
  refine dq_agrees S I J hn (fun Y' A => ?_)
  have F : dq_use (t i0) (K i0) Y (dw_cs Y' (dw_s Y)) := A.1
  have hq : t i0 ≠ q38 := fun e => (o0 _ dq_own_th).2 (by rw [e]; exact M.2.2.1)
  exact hQ Y' (dq_SEP_useC H h0 A.1) (dq_MS_fr M F : dq_MS fx w h nb r q38 (dw_cs Y' (dw_s Y))) (dq_BF_fr B F (fun j z => hq z.1.symm) : dq_BF (dw_cs Y' (dw_s Y)) q38 m t') A.2
set_option maxHeartbeats 1000000 in
theorem dq_lwX_ok {ok isCh : Int32} {Kk : Int32 × Int32 × Int32 × dw_S × Nat × Nat → Prop} (H : dq_SEP fx S0 w h nb nc (min d 8 + 1) t K R Y) (e0 : t 0 = th) (e1 : t 1 = u) (M : dq_MS fx w h nb r q38 Y) (B : dq_BF Y q38 (min d 8) (fun i => t (i + 1))) (hn : 700000 < n) (hd : d ≤ 14) (hok : ok = 1) (hJ : (isCh = 1 ∧ ∃ hist buf, pu_IC (dw_s Y) w h nb nc (R 0) (min (1 + (d + 1)) 8) hist 0 buf (-1) ∧ ∀ j, j < min (d + 1) 8 → hist (min (1 + (d + 1)) 8 - 1 - j) = R (j + 1)) ∨ (isCh = 0 ∧ ∃ hist buf, pu_IC (dw_s Y) w h nb nc (R 0) (min (1 + d) 8) hist 0 buf (-1) ∧ ∀ j, j < min d 8 → hist (min (1 + d) 8 - 1 - j) = R (j + 2))) (hc : c + 1457 ≤ dw_rc) (hs : s + 117018 ≤ dw_rs) (hK : ∀ d' Y', d' ≤ d + 1 → dq_MI fx S0 w h nb nc th r q38 d' Y' → Kk (1, Int32.ofNat d', cnt + (1 : Int32), Y', c + 1457, s + 117018)) : dq_lwX n th q38 u ok isCh (Int32.ofNat d) cnt Y c s Kk := by
  subst hok
  unfold dq_lwX
  refine dq_jn (fun a => a.2.1 = cnt ∧ ∃ d', a.1 = Int32.ofNat d' ∧ d' ≤ d + 1 ∧ dq_MI fx S0 w h nb nc th r q38 d' a.2.2) (fun a ha => ?_) (fun f hf => ?_)
  · obtain ⟨a1, a2, Ya⟩ := a
    obtain ⟨g1, d', g2, g3, Ma, t2, K2, R2, hist2, buf2, H2, z0, J2, hh2, B2⟩ := ha
    dsimp only [] at g1 g2 Ma H2 J2 B2
    subst g1 g2
    dsimp only []
    refine dq_jn (fun v => v.1 = 1 ∧ v.2.2.1 = c + 1457 ∧ v.2.2.2 = s + 117018 ∧ dq_MI fx S0 w h nb nc th r q38 d' v.2.1) (fun v hv => ?_) (fun f hf => ?_)
    · obtain ⟨v1, Yv, cv, sv⟩ := v
      obtain ⟨k1, k2, k3, k4⟩ := hv
      dsimp only [] at k1 k2 k3 k4
      subst k1 k2 k3
      exact hK d' Yv g3 k4
    · refine dq_jn (fun _ => False) (fun _ z => z.elim) (fun f2 _ => dq_iff (by decide) (dq_ck ⟨hc, hs⟩ ?_))
      rw [← z0]
      refine dq_ag0 (a0 := R2 0) H2 (Nat.zero_le _) Ma B2 J2 hn (fun Y3 H3 M3 B3 J3 => dq_iff (fun z => absurd (show (1 : Int32) = 0 from z) (by decide)) (hf _ ⟨rfl, rfl, rfl, M3, t2, K2, R2, hist2, buf2, H3, ?_, J3, hh2, B3⟩))
      exact z0
  · rcases hJ with ⟨hi, hist, buf, J, hh⟩ | ⟨hi, hist, buf, J, hh⟩
    · subst hi
      refine dq_iff (by decide) (dq_lt ?_)
      have bq := B.1
      have hm7 : ∀ x : Fin 9, Int32.ofNat (x.val + 1) + (-1 : Int32) = Int32.ofNat x.val := by decide
      have hu13 : dw_is Y u 13 := by rw [← e1]; exact (H.2.1 1 (by omega)).1.1
      refine dq_for 8 (fun i v => v.1 = Int32.ofNat d ∧ v.2.1 = cnt ∧ v.2.2.1 = Int32.ofNat (8 - i) ∧ dq_fr dq_no (fun k _ => k = q38) Y v.2.2.2 ∧ ∀ j, j < 9 → dw_r v.2.2.2 q38 j = dw_r Y q38 (if 8 - i < j then j - 1 else j)) (fun k i v hi hv hk => ?_) (fun k v hv => ?_) (by omega) ⟨rfl, rfl, rfl, dq_fr_refl, fun j hj => by rw [if_neg (by omega)]⟩
      all_goals
        obtain ⟨v1, v2, v3, Yv⟩ := v
        obtain ⟨g1, g2, g3, Fv, ev⟩ := hv
        dsimp only [] at g1 g2 g3 Fv ev
        subst g1 g2 g3
        dsimp only []
        have Av : dq_A1 Yv q38 25 9 := dq_A1_fr Fv bq
      · refine dq_iff (fun z => by have := (pu_le (b := 0) (by omega) (by omega)).mp z; omega) ?_
        rw [show Int32.ofNat (8 - i) - (1 : Int32) = Int32.ofNat (8 - i - 1) from pu_sub (b := 1) (by omega), pu_n (show 8 - i - 1 < 2147483648 by omega), pu_n (show 8 - i < 2147483648 by omega)]
        refine dq_ck (dq_A1_ok Av (by omega) (by omega)) (dq_ck ⟨Av.1, (dq_A1_ok Av (m := 8 - i) (by omega) (by omega)).2, fun x hx => ?_⟩ (dq_lt (dq_lt (hk _ ⟨rfl, rfl, ?_, dq_fr_pr Fv (fun _ => rfl), fun j hj => ?_⟩))))
        · rw [ev _ (by omega), if_neg (by omega)] at hx
          exact dq_is_fr Fv (B.2.1 _ (by omega) x hx)
        · dsimp only []
          rw [show 8 - i = 8 - (i + 1) + 1 by omega]
          exact hm7 ⟨8 - (i + 1), by omega⟩
        · dsimp only []
          by_cases e : j = 8 - i
          · rw [e, dq_r_pr_s, ev _ (by omega), if_neg (by omega), if_pos (by omega)]
          · rw [dq_r_pr_j e, ev j hj]
            by_cases e2 : 8 - i < j
            · rw [if_pos e2, if_pos (by omega)]
            · rw [if_neg e2, if_neg (by omega)]
      · refine dq_ift (by decide) (dq_ck ⟨Av.1, (dq_A1_ok Av (m := 0) (by omega) (by omega)).2, fun x hx => ?_⟩ (dq_lt (dq_lt (hf _ ⟨rfl, d + 1, pu_add d 1, Nat.le_refl _, ?_, t, K, R, hist, buf, ?_, e0, ?_, hh, ?_, fun j hj x hx => ?_, fun j hj => ?_⟩))))
        · cases hx
          exact dq_is_fr Fv hu13
        all_goals
          have Fz : dq_fr dq_no (fun k _ => k = q38) Y (dw_pr Yv q38 0 (some u)) := dq_fr_pr Fv (fun _ => rfl)
        · exact dq_MS_fr M Fz
        · have G := dq_SEP_fr H Fz (fun _ _ z => absurd z id) (fun k j (z : k = q38) => by rw [z]; exact M.2.2.1)
          exact ⟨G.1, fun i hi => G.2.1 i (by omega), fun i j hi hj => G.2.2 i j (by omega) (by omega)⟩
        · have es : dw_s (dw_pr Yv q38 0 (some u)) = dw_s Y := Fz.1
          dsimp only []
          rw [es]; exact J
        · exact dq_A1_fr Fz bq
        · dsimp only [] at hx
          by_cases e : j = 0
          · rw [e, dq_r_pr_s] at hx
            cases hx
            exact dq_is_fr Fz hu13
          · rw [dq_r_pr_j e, ev j hj, if_pos (by omega)] at hx
            exact dq_is_fr Fz (B.2.1 _ (by omega) x hx)
        · dsimp only []
          by_cases e : j = 0
          · rw [e, dq_r_pr_s, ← e1]
          · rw [dq_r_pr_j e, ev j (by omega), if_pos (by omega), B.2.2 (j - 1) (by omega)]
            show some (t (j - 1 + 1 + 1)) = _
            rw [show j - 1 + 1 + 1 = j + 1 by omega]
    · subst hi
      refine dq_ift rfl (hf _ ⟨rfl, d, rfl, by omega, M, fun i => t (if i = 0 then 0 else i + 1), fun i => K (if i = 0 then 0 else i + 1), fun i => R (if i = 0 then 0 else i + 1), hist, buf, dq_SEP_re H (fun i => if i = 0 then 0 else i + 1) (fun i hi => ?_) (fun i j hi hj hij => ?_), e0, J, fun j hj => ?_, B.1, B.2.1, fun j hj => ?_⟩)
      · split <;> omega
      · split <;> split <;> omega
      · dsimp only []
        rw [if_neg (by omega)]
        exact hh j hj
      · dsimp only []
        rw [if_neg (by omega)]
        exact B.2.2 j hj
end DQMX
