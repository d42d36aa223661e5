/-! the class and the law's island agree -/
section DQG
variable {a : Nat → Int32} {w h nb nc cn len n : Nat} {Y Y0 Y' Y'' : dw_S} {th : Nat} {ι : Nat → Nat} {hist : Nat → Nat → Int32} {buf : Nat → Nat} {err : Int32}
/-- used, and the class asked -/
def dq_useC (th : Nat) (ι : Nat → Nat) (Y Y' : dw_S) : Prop := dq_use th ι Y (dw_cs Y' (dw_s Y))
theorem dq_useC_refl : dq_useC th ι Y Y := dq_fr_refl
theorem dq_useC_cs {s : tw_Sg} (F : dq_useC th ι Y Y') : dq_useC th ι Y (dw_cs Y' s) := F
theorem dq_useC_use (F : dq_useC th ι Y Y') (G : dq_use th ι Y' Y'') : dq_useC th ι Y Y'' := dq_fr_tr F ⟨rfl, G.2.1, G.2.2.1, G.2.2.2.1, G.2.2.2.2⟩
theorem dq_I_cs {s : tw_Sg} : dq_I (dw_cs Y s) th ι a w h nb nc ↔ dq_I Y th ι a w h nb nc := Iff.rfl
theorem dq_I_useC (F : dq_useC th ι Y Y') (I : dq_I Y th ι a w h nb nc) : dq_I Y' th ι a w h nb nc := dq_I_use (Y' := dw_cs Y' (dw_s Y)) F I
/-- what holds of both sides -/
def dq_AG (Y0 : dw_S) (th : Nat) (ι : Nat → Nat) (a : Nat → Int32) (w h nb nc cn : Nat) (hist : Nat → Nat → Int32) (len : Nat) (buf : Nat → Nat) (err : Int32) (Y : dw_S) : Prop := dq_useC th ι Y0 Y ∧ pu_IC (dw_s Y) w h nb nc a cn hist len buf err
theorem dq_AG_cs {s : tw_Sg} (A : dq_AG Y0 th ι a w h nb nc cn hist len buf err Y) (J : pu_IC s w h nb nc a cn hist len buf err) : dq_AG Y0 th ι a w h nb nc cn hist len buf err (dw_cs Y s) := ⟨A.1, J⟩
theorem dq_AG_use (A : dq_AG Y0 th ι a w h nb nc cn hist len buf err Y) (G : dq_use th ι Y Y') : dq_AG Y0 th ι a w h nb nc cn hist len buf err Y' := ⟨dq_useC_use A.1 G, by rw [G.1]; exact A.2⟩
theorem dq_cellOf_c (hw : w ≤ 20) (hh : h ≤ 20) {c : Nat} (hc : c < w * h) : pu_cellOf w h (Int32.ofNat (c % w)) (Int32.ofNat (c / w)) = some c := by
  obtain ⟨-, c2, c3, c4⟩ := pu_cell hc
  rw [pu_cellOf_of hw hh c3 c2, ← c4]
theorem dq_cellOf_w {x : Int32} (hw : w ≤ 20) : pu_cellOf w h (Int32.ofNat w) x = none := by
  unfold pu_cellOf
  rw [if_neg]
  rw [pu_toInt (by omega)]
  omega
theorem dq_clueOf_n (h4 : nc ≤ 4) : pu_clueOf nc (Int32.ofNat nc) = none := by
  unfold pu_clueOf
  rw [if_neg]
  rw [pu_toInt (by omega)]
  omega
set_option maxHeartbeats 2000000 in
theorem dq_agrees (S : dq_sm a w h nc) (I0 : dq_I Y th ι a w h nb nc) (J0 : pu_IC (dw_s Y) w h nb nc a cn hist len buf err) (hn : 700000 < n) {Q : Int32 × dw_S → Prop} (hQ : ∀ Y', dq_AG Y th ι a w h nb nc cn hist len buf err Y' → Q (1, Y')) : dw_P_L_agrees n th Y Q := by
  have H := J0.1
  have hS1 := S.1
  have hle := pu_wfm_le H.1
  obtain ⟨-, -, w1, w2, h1, h2⟩ := id H.1
  have h4 := H.2.2.1.2.1
  have hw0 := pu_ne0 w1 (show w < 2147483648 by omega)
  obtain ⟨⟨v0, s0⟩, e0, e0v, e0s⟩ := pu_csum (n := n) H J0.2.1 (by omega)
  dsimp only [] at e0v e0s
  dsimp only [dw_P_L_agrees, pw_lt]
  refine dq_bd e0 (dq_ck I0.1 (dq_sum (Y := dw_cs Y s0) H S I0 hn (fun r er Fr => ?_)))
  rw [e0v, er]
  have A1 : dq_AG Y th ι a w h nb nc cn hist len buf err r.2 := dq_AG_use (dq_AG_cs ⟨dq_useC_refl, J0⟩ (pu_IC_SQ J0 e0s)) Fr
  have hcmp : lg_cmp (pu_f3 a w h nb nc nc) (pu_f3 a w h nb nc nc) = 0 := by
    unfold lg_cmp
    rw [if_neg (fun z => by have := Int64.lt_iff_toInt_lt.mp z; omega), if_pos rfl]
  refine dq_jn (fun v => v.1 = 1 ∧ dq_AG Y th ι a w h nb nc cn hist len buf err v.2.1 ∧ v.2.2.1 = 847 ∧ v.2.2.2 = 71130) (fun v hv => ?_) (fun j hj => dq_jn (fun _ => False) (fun _ z => z.elim) (fun j2 _ => dq_iff (fun z => z hcmp) (dq_qstateX A1.2 (by omega) (dq_iff (fun z => z rfl) ?_))))
  rotate_left
  · have I1 := dq_I_useC A1.1 I0
    obtain ⟨Is1, ⟨f0, -⟩, ⟨-, -, -, -, r6, -⟩, -, -, ⟨C1, -⟩, -⟩ := id I1
    rw [f0]
    refine dq_ck Is1 (dq_qcellX A1.2 (by omega) (dq_cellOf_w w2) (dq_iff (fun z => z rfl) (dq_ck Is1 (dq_nn r6 (dq_ck C1.1 ?_)))))
    rw [C1.2]
    exact dq_qreachedX A1.2 (by omega) (dq_clueOf_n h4) (dq_iff (fun z => z rfl) (hj _ ⟨rfl, A1, rfl, rfl⟩))
  obtain ⟨v1, Yv, cc, ss⟩ := v
  obtain ⟨hv1, Av, hc1, hs1⟩ := hv
  dsimp only [] at hv1 Av hc1 hs1
  dsimp only []
  subst hv1 hc1 hs1
  -- the states
  refine dq_for 13 (fun i v => v.1 = 1 ∧ v.2.1 = Int32.ofNat i ∧ dq_AG Y th ι a w h nb nc cn hist len buf err v.2.2.1 ∧ v.2.2.2.1 = 847 + i + dq_tcS i ∧ v.2.2.2.2 = 71130 + 6 * i + dq_tsS i) (fun k2 i v hi hv hk2 => ?_) (fun k2 v hv => ?_) (by omega) ⟨rfl, rfl, Av, rfl, rfl⟩
  all_goals
    obtain ⟨v1, v2, Yt, ct, st⟩ := v
    obtain ⟨hv1, hv2, At, hct, hst⟩ := hv
    dsimp only [] at hv1 hv2 At hct hst
    dsimp only []
    subst hv1 hv2
    have It := dq_I_useC At.1 I0
  · obtain ⟨htc, hts⟩ := dq_tcs (k := i) (by omega)
    obtain ⟨t1, t2, t3, t4⟩ := dq_tcS_S (k := i) (by omega)
    rw [htc, hts]
    refine dq_jn (fun _ => False) (fun _ z => z.elim) (fun j2 _ => dq_iff (by rw [show (13 : Int32) = Int32.ofNat 13 from rfl, pu_le (by omega) (by omega)]; omega) (dq_iff (by decide) (dq_ck ⟨by omega, by omega⟩ (dq_qstate At.2 (by omega) (by omega) (fun s Js => ?_)))))
    have As := dq_AG_cs At Js
    refine dq_ck ⟨It.1, by omega, by omega⟩ (dq_told (Y := dw_cs Yt s) H S It hn (by omega) (fun r2 e2 F2 => ?_))
    rw [e2]
    exact dq_jn (fun v => v = 1) (fun v hv => hk2 _ ⟨hv, pu_add i 1, dq_AG_use As F2, by dsimp only []; omega, by dsimp only []; omega⟩) (fun j3 hj3 => dq_iff (fun z => z rfl) (hj3 _ rfl))
  have hct : ct = 847 + 13 + 378 := hct
  have hst : st = 71130 + 78 + 28512 := hst
  refine dq_jn (fun _ => True) (fun _ _ => ?_) (fun j2 hj2 => dq_ift (by decide) (hj2 () trivial))
  refine dq_ck ⟨It.1, by omega, by omega⟩ (dq_reasons H S It (by omega) (fun r2 R2 => ?_))
  have A2 := dq_AG_use At R2.1
  have hN5 := It.2.2.2.2.2.2.1.1.1
  -- why, cell by cell
  refine dq_for (w * h) (fun i v => v.1 = 1 ∧ v.2.1 = Int32.ofNat i ∧ dq_AG Y th ι a w h nb nc cn hist len buf err v.2.2.1 ∧ dq_RQ Yt th ι 20 (w * h) r2.1 (dq_why a w h nb nc) (dw_cs v.2.2.1 (dw_s Yt)) ∧ v.2.2.2.1 = 1332 + i ∧ v.2.2.2.2 = 108264 + 6 * i) (fun k2 i v hi hv hk2 => ?_) (fun k2 v hv => ?_) (by omega) ⟨rfl, rfl, A2, (show dq_RQ Yt th ι 20 (w * h) r2.1 (dq_why a w h nb nc) (dw_cs r2.2 (dw_s Yt)) from ⟨⟨rfl, R2.1.2⟩, R2.2⟩), by dsimp only []; omega, by dsimp only []; omega⟩
  all_goals
    obtain ⟨v1, v2, Yu, cu, su⟩ := v
    obtain ⟨hv1, hv2, Au, Ru, hcu, hsu⟩ := hv
    dsimp only [] at hv1 hv2 Au Ru hcu hsu
    dsimp only []
    subst hv1 hv2
    have Iu := dq_I_useC Au.1 I0
    have ru1 : dq_A1 Yu r2.1 20 (w * h) := Ru.2.1
    have ru2 : ∀ c, c < w * h → dw_i Yu r2.1 c = dq_why a w h nb nc c := Ru.2.2.2
    obtain ⟨Isu, ⟨f0, f1, f7, f8, f9, f10⟩, -⟩ := id Iu
    rw [ru1.2]
  · rw [f0, pu_rem (by omega) (by omega), pu_div (by omega) (by omega), pu_n (by omega)]
    refine dq_ck ru1.1 (dq_jn (fun _ => False) (fun _ z => z.elim) (fun j3 _ => dq_iff (by rw [pu_le (by omega) (by omega)]; omega) (dq_iff (by decide) (dq_ck Isu (dq_ck hw0 (dq_ck Isu (dq_ck hw0 (dq_ck ⟨by omega, by omega⟩ (dq_qwhy Au.2 (by omega) (dq_cellOf_c w2 h2 hi) (dq_ck (dq_A1_ok ru1 hi (by omega)) ?_))))))))))
    rw [ru2 i hi]
    exact dq_jn (fun v => v = 1) (fun v hv => hk2 _ ⟨hv, pu_add i 1, Au, Ru, by dsimp only []; omega, by dsimp only []; omega⟩) (fun j4 hj4 => dq_iff (fun z => z rfl) (hj4 _ rfl))
  -- the chest
  refine dq_ck ru1.1 (dq_jn (fun _ => True) (fun _ _ => ?_) (fun j3 hj3 => dq_ift ((pu_le (by omega) (by omega)).mpr (Nat.le_refl _)) (hj3 () trivial)))
  refine dq_jn (fun v => v.1 = 1 ∧ dq_AG Y th ι a w h nb nc cn hist len buf err v.2.1 ∧ v.2.2.1 ≤ 1457 ∧ v.2.2.2 ≤ 117018) (fun v hv => ?_) (fun j3 hj3 => ?_)
  · obtain ⟨z1, z2, z3, z4⟩ := hv
    rw [z1]
    exact dq_ck ⟨⟨z3, z4⟩, by decide⟩ (hQ _ z2)
  obtain ⟨⟨vc, sc⟩, ec, ecv, ecs⟩ := pu_cchest (n := n) H Au.2.2.1 (by omega)
  dsimp only [] at ecv ecs
  have Ac := dq_AG_cs Au (pu_IC_SQ Au.2 ecs)
  refine dq_jn (fun _ => False) (fun _ z => z.elim) (fun j4 _ => dq_iff (by decide) (dq_ck ⟨by omega, by omega⟩ (dq_bd ec (dq_ck Isu ?_))))
  rw [ecv]
  refine dq_jn (fun v => v.1 = pu_oChest a w h nb nc ∧ dq_AG Y th ι a w h nb nc cn hist len buf err v.2.1 ∧ v.2.2.1 ≤ 1457 ∧ v.2.2.2 ≤ 117018) (fun v hv => ?_) (fun j5 hj5 => ?_)
  · obtain ⟨z1, z2, z3, z4⟩ := hv
    rw [z1]
    exact dq_iff (fun z => z rfl) (hj3 _ ⟨rfl, z2, z3, z4⟩)
  refine dq_jn (fun v => pu_oChest a w h nb nc = 0 ∧ dq_AG Y th ι a w h nb nc cn hist len buf err v.1 ∧ v.2.1 ≤ 1457 ∧ v.2.2 ≤ 117018) (fun v hv => hj5 _ ⟨hv.1.symm, hv.2⟩) (fun j6 hj6 => ?_)
  have g9 : dw_i (dw_cs Yu sc) th 9 = a 6 := f9
  rw [g9]
  refine dq_if (fun z => hj6 _ ⟨?_, Ac, by dsimp only []; omega, by dsimp only []; omega⟩) (fun z => ?_)
  · unfold pu_oChest
    rw [decide_eq_false z]
    rfl
  have z6 : a 6 = 1 := Classical.not_not.mp z
  obtain ⟨c71, c72⟩ := pu_chestLt H
  have g10 : dw_i (dw_cs Yu sc) th 10 = Int32.ofNat (pu_v a 7) := (f10 z6).trans c71
  refine dq_ck ⟨Isu, by omega, by omega⟩ (dq_left (Y := dw_cs Yu sc) H S Iu (by omega) (fun r3 R3 => ?_))
  have I3 := dq_I_use R3.1 Iu
  obtain ⟨Is3, ⟨-, -, -, -, -, k10⟩, -⟩ := id I3
  have A3 := dq_AG_use Ac R3.1
  rw [k10 z6, c71, pu_n (by omega), R3.2.2.2 _ c72]
  refine dq_ck Is3 (dq_ck (dq_A1_ok R3.2.1 c72 (by omega)) (dq_if (fun y => hj6 _ ⟨?_, A3, by dsimp only []; omega, by dsimp only []; omega⟩) (fun y => hj5 _ ⟨?_, A3, by dsimp only []; omega, by dsimp only []; omega⟩)))
  · unfold pu_oChest
    rw [pu_b1_0.mp y, Bool.and_false]
    rfl
  · unfold pu_oChest
    rw [pu_bF (fun e => y (pu_b1_0.mpr e)), decide_eq_true z6]
    rfl
end DQG
