/-! what the law's island tells -/
section DQO
variable {a : Nat → Int32} {w h nb nc s c n : Nat} {Y Y0 Y' : dw_S} {th : Nat} {ι : Nat → Nat}
theorem dq_marks {Q : Int32 → Prop} (H : pu_WF a w h nb nc) {r : Nat} (A : dq_A1 Y r 20 8) (hA : ∀ k, k < 8 → dw_i Y r k = a (808 + k)) (hn : 500 < n) (hQ : Q (Int32.ofNat (pu_sum (pu_mks a) 8))) : pw_lp (fun (k45 : (Int32 × Int32) → Prop) (a44 : Int32 × Int32) =>
if Int32.ofNat 8 ≤ a44.2 then (Q a44.1)
else (pw_ck (dw_is Y r 20 ∧ tw_ok a44.2 8 = true) (
tw_jn (fun (a47 : Int32) => k45 (a47, a44.2 + (1 : Int32))) (fun (j48 : (Int32) → Prop) =>
if dw_i Y r (Int32.toNatClampNeg a44.2) < 0 then (j48 a44.1)
else (j48 (a44.1 + (1 : Int32))))))) n ((0 : Int32), (0 : Int32)) := by
  have hm4 := pu_wfm_le H.1
  refine dq_for 8 (fun i v => v = (Int32.ofNat (pu_sum (pu_mks a) i), Int32.ofNat i)) (fun k i v hi hv hk => ?_) (fun k v hv => ?_) (by omega) rfl
  · subst hv
    have hs := pu_sum_le (p := pu_mks a) i
    dsimp only []
    rw [pu_n (by omega), hA i hi]
    have key : a (808 + i) < 0 ↔ pu_mks a i = false := by
      rcases H.2.2.2.1.2.2.1 i hi with z | z
      · rw [z]
        refine ⟨fun _ => ?_, fun _ => by decide⟩
        unfold pu_mks pu_mk
        rw [if_pos z]; rfl
      · have z3 := pu_is_n1 z (by omega)
        rw [z.1]
        refine ⟨fun y => absurd y (pu_nn (by have := z.2; omega)), fun y => ?_⟩
        unfold pu_mks pu_mk at y
        rw [if_neg z3] at y
        cases y
    refine dq_iff (by rw [pu_le (by omega) (by omega)]; omega) (dq_ck ⟨A.1, pu_ok (by omega) hi⟩ (dq_jn (fun v => v = Int32.ofNat (pu_sum (pu_mks a) (i + 1))) (fun v hv => hk _ ?_) (fun j hj => dq_if (fun z => hj _ ?_) (fun z => hj _ ?_))))
    · rw [hv]
      exact congrArg _ (pu_add i 1)
    · rw [pu_sum_S, key.mp z]; rfl
    · rw [pu_sum_S, if_pos (pu_bF (fun e => z (key.mpr e)))]
      exact pu_add _ 1
  · subst hv
    exact dq_ift ((pu_le (by omega) (by omega)).mpr (Nat.le_refl _)) hQ
theorem dq_used {Q : Int32 → Prop} (H : pu_WF a w h nb nc) (I : dq_I Y th ι a w h nb nc) (hn : 500 < n) (hQ : Q (Int32.ofNat (pu_sum (pu_uss a) nc))) : pw_lp (fun (k35 : (Int32 × Int32) → Prop) (a34 : Int32 × Int32) =>
if Int32.ofNat nc ≤ a34.2 then (Q a34.1)
else (pw_ck (dw_is Y (ι 4) 24 ∧ tw_ok a34.2 nc = true) (
pw_nn (dw_r Y (ι 4) (Int32.toNatClampNeg a34.2)) (fun (r36 : Nat) =>
pw_ck (dw_is Y r36 12) (
tw_jn (fun (a37 : Int32) => k35 (a37, a34.2 + (1 : Int32))) (fun (j38 : (Int32) → Prop) =>
if (dw_i Y r36 2) = 0 then (j38 a34.1)
else (j38 (a34.1 + (1 : Int32))))))))) n ((0 : Int32), (0 : Int32)) := by
  have h4 := H.2.2.1.2.1
  obtain ⟨-, -, -, -, -, ⟨C1, C2⟩, -⟩ := I
  refine dq_for nc (fun i v => v = (Int32.ofNat (pu_sum (pu_uss a) i), Int32.ofNat i)) (fun k i v hi hv hk => ?_) (fun k v hv => ?_) (by omega) rfl
  · subst hv
    have hs := pu_sum_le (p := pu_uss a) i
    obtain ⟨⟨d1, d2, d3, -⟩, -⟩ := C2 i hi
    dsimp only []
    rw [pu_n (by omega)]
    refine dq_iff (by rw [pu_le (by omega) (by omega)]; omega) (dq_ck (dq_A1_okn C1 hi (by omega)) (dq_nn d1 (dq_ck d2 (dq_jn (fun v => v = Int32.ofNat (pu_sum (pu_uss a) (i + 1))) (fun v hv => hk _ ?_) (fun j hj => dq_if (fun z => hj _ ?_) (fun z => hj _ ?_))))))
    · rw [hv]
      exact congrArg _ (pu_add i 1)
    · rw [d3] at z
      rw [pu_sum_S]
      unfold pu_uss
      rw [z, decide_eq_false (by decide)]; rfl
    · rw [d3] at z
      have u1 := (dq_use01 H hi).elim (fun e => absurd e z) id
      rw [pu_sum_S]
      have e : pu_uss a i = true := by unfold pu_uss; rw [u1]; rfl
      rw [if_pos e]
      exact pu_add _ 1
  · subst hv
    exact dq_ift ((pu_le (by omega) (by omega)).mpr (Nat.le_refl _)) hQ
theorem dq_zeros {Q : Int32 → Prop} {r m : Nat} {f : Nat → Int32} {p : Nat → Bool} (A : dq_A1 Y r 20 m) (hA : ∀ c, c < m → dw_i Y r c = f c) (hp : ∀ c, c < m → (f c = 0 ↔ p c = true)) (hm : m ≤ 400) (hn : 500 < n) (hQ : Q (Int32.ofNat (pu_sum p m))) : pw_lp (fun (k25 : (Int32 × Int32) → Prop) (a24 : Int32 × Int32) =>
if Int32.ofNat m ≤ a24.2 then (Q a24.1)
else (pw_ck (dw_is Y r 20 ∧ tw_ok a24.2 m = true) (
tw_jn (fun (a27 : Int32) => k25 (a27, a24.2 + (1 : Int32))) (fun (j28 : (Int32) → Prop) =>
if ¬ (dw_i Y r (Int32.toNatClampNeg a24.2)) = 0 then (j28 a24.1)
else (j28 (a24.1 + (1 : Int32))))))) n ((0 : Int32), (0 : Int32)) := by
  refine dq_for m (fun i v => v = (Int32.ofNat (pu_sum p i), Int32.ofNat i)) (fun k i v hi hv hk => ?_) (fun k v hv => ?_) (by omega) rfl
  · subst hv
    have hs := pu_sum_le (p := p) i
    dsimp only []
    rw [pu_n (by omega), hA i hi]
    refine dq_iff (by rw [pu_le (by omega) (by omega)]; omega) (dq_ck ⟨A.1, pu_ok (by omega) hi⟩ (dq_jn (fun v => v = Int32.ofNat (pu_sum p (i + 1))) (fun v hv => hk _ ?_) (fun j hj => dq_if (fun z => hj _ ?_) (fun z => hj _ ?_))))
    · rw [hv]
      exact congrArg _ (pu_add i 1)
    · rw [pu_sum_S, if_neg (fun e => z ((hp i hi).mpr e))]; rfl
    · rw [pu_sum_S, if_pos ((hp i hi).mp (Classical.not_not.mp z))]
      exact pu_add _ 1
  · subst hv
    exact dq_ift ((pu_le (by omega) (by omega)).mpr (Nat.le_refl _)) hQ
def dq_tcN (k : Nat) : Nat := if k = 6 ∨ k = 7 ∨ k = 9 then 126 else 0
def dq_tsN (k : Nat) : Nat := if k = 6 ∨ k = 7 ∨ k = 9 then 9504 else 0
theorem dq_tcs {k : Nat} (hk : k ≤ 12) : dw_tc (Int32.ofNat k) = dq_tcN k ∧ dw_ts (Int32.ofNat k) = dq_tsN k := by
  have key : ∀ k : Fin 13, dw_tc (Int32.ofNat k.val) = dq_tcN k.val ∧ dw_ts (Int32.ofNat k.val) = dq_tsN k.val := by decide +kernel
  exact key ⟨k, by omega⟩
set_option maxHeartbeats 1000000 in
theorem dq_told (H : pu_WF a w h nb nc) (S : dq_sm a w h nc) (I : dq_I Y th ι a w h nb nc) (hn : 700000 < n) {k : Nat} (hk : k ≤ 12) {Q : Int32 × dw_S → Prop} (hQ : ∀ r, r.1 = pu_tv a w h nb nc (pu_np a w h nb nc) k → dq_use th ι Y r.2 → Q r) : dw_P_X13_told n th (Int32.ofNat k) Y Q := by
  have hle := pu_wfm_le H.1
  obtain ⟨Is, ⟨f0, f1, f7, f8, f9, -⟩, ⟨r2, r3, r4, r5, r6, r12⟩, ⟨⟨A0, A0i⟩, ⟨A1, A1i⟩, M1, M2⟩, ⟨B1, -⟩, ⟨C1, -⟩, -⟩ := id I
  have hkj : ∀ j : Nat, j < 100 → (Int32.ofNat k = Int32.ofNat j ↔ k = j) := fun j hj => pu_eq (by omega) (by omega)
  have k0 : Int32.ofNat k = 0 ↔ k = 0 := hkj 0 (by omega)
  have k1 : Int32.ofNat k = 1 ↔ k = 1 := hkj 1 (by omega)
  have k2 : Int32.ofNat k = 2 ↔ k = 2 := hkj 2 (by omega)
  have k3 : Int32.ofNat k = 3 ↔ k = 3 := hkj 3 (by omega)
  have k4 : Int32.ofNat k = 4 ↔ k = 4 := hkj 4 (by omega)
  have k5 : Int32.ofNat k = 5 ↔ k = 5 := hkj 5 (by omega)
  have k6 : Int32.ofNat k = 6 ↔ k = 6 := hkj 6 (by omega)
  have k7 : Int32.ofNat k = 7 ↔ k = 7 := hkj 7 (by omega)
  have k8 : Int32.ofNat k = 8 ↔ k = 8 := hkj 8 (by omega)
  have k9 : Int32.ofNat k = 9 ↔ k = 9 := hkj 9 (by omega)
  have k10 : Int32.ofNat k = 10 ↔ k = 10 := hkj 10 (by omega)
  have k11 : Int32.ofNat k = 11 ↔ k = 11 := hkj 11 (by omega)
  have k12 : Int32.ofNat k = 12 ↔ k = 12 := hkj 12 (by omega)
  obtain ⟨htc, hts⟩ := dq_tcs hk
  dsimp only [dw_P_X13_told, pw_lt]
  rw [htc, hts]
  have t6 : (k = 6 ∨ k = 7 ∨ k = 9) → dq_tcN k = 126 ∧ dq_tsN k = 9504 := fun z => ⟨if_pos z, if_pos z⟩
  generalize dq_tcN k = tc at *
  generalize dq_tsN k = ts at *
  -- marks
  refine dq_jn (fun v => v = if k = 2 then Int32.ofNat (pu_sum (pu_mks a) 8) else 0) (fun vm hvm => ?_) (fun j hj => dq_if (fun z => hj _ (by rw [if_neg (fun e => z (k2.mpr e))])) (fun z => dq_ck Is (dq_nn r4 (dq_ck M1.1 (by
    rw [M1.2]
    exact dq_marks (n := n) (Q := j) H M1 M2 (by omega) (hj _ (by rw [if_pos (k2.mp (Classical.not_not.mp z))])))))))
  -- used clues
  refine dq_jn (fun v => v = if k = 5 then Int32.ofNat (pu_sum (pu_uss a) nc) else vm) (fun vu hvu => ?_) (fun j hj => dq_if (fun z => hj _ (by rw [if_neg (fun e => z (k5.mpr e))])) (fun z => dq_ck Is (dq_nn r6 (dq_ck C1.1 (by
    have e5 := k5.mp (Classical.not_not.mp z)
    have em : vm = 0 := by rw [hvm, if_neg (by omega)]
    rw [C1.2, em]
    exact dq_used (n := n) (Q := j) H I (by omega) (hj _ (by rw [if_pos e5])))))))
  -- candidates
  refine dq_jn (fun v => v.1 = (if k = 6 then Int32.ofNat (pu_sum (pu_cand a w h nb nc) (w * h)) else vu) ∧ dq_use th ι Y v.2.1 ∧ v.2.2.1 = (if k = 6 then 94 else 0) ∧ v.2.2.2 = (if k = 6 then 8544 else 0)) (fun v hv => ?_) (fun j hj => dq_if (fun z => hj _ ⟨by rw [if_neg (fun e => z (k6.mpr e))], dq_fr_refl, by rw [if_neg (fun e => z (k6.mpr e))], by rw [if_neg (fun e => z (k6.mpr e))]⟩) (fun z => ?_))
  rotate_left
  · have e6 := k6.mp (Classical.not_not.mp z)
    obtain ⟨u1, u2⟩ := t6 (Or.inl e6)
    have em : vu = 0 := by rw [hvu, if_neg (by omega), hvm, if_neg (by omega)]
    refine dq_ck ⟨Is, by omega, by omega⟩ (dq_reasons H S I (by omega) (fun r R => dq_ck R.2.1.1 ?_))
    rw [R.2.1.2, em]
    exact dq_zeros (n := n) (Q := fun x => j (x, r.2, 94, 8544)) R.2.1 R.2.2.2 (fun c _ => dq_why0 H) hle (by omega) (hj _ ⟨by rw [if_pos e6], R.1, by rw [if_pos e6], by rw [if_pos e6]⟩)
  obtain ⟨v1, Yv, cc, ss⟩ := v
  obtain ⟨hv1, Fv, hc1, hs1⟩ := hv
  dsimp only [] at hv1 Fv hc1 hs1
  dsimp only []
  subst hv1
  have Iv := dq_I_use Fv I
  obtain ⟨Isv, ⟨g0, g1, g7, g8, g9, -⟩, ⟨q2, q3, q4, q5, q6, q12⟩, ⟨⟨A0v, A0iv⟩, ⟨A1v, A1iv⟩, M1v, M2v⟩, ⟨B1v, -⟩, ⟨C1v, -⟩, -⟩ := id Iv
  have hcs : cc ≤ tc ∧ ss ≤ ts ∧ (k ≠ 6 → cc = 0 ∧ ss = 0) := by
    by_cases e6 : k = 6
    · obtain ⟨u1, u2⟩ := t6 (Or.inl e6)
      rw [if_pos e6] at hc1 hs1
      exact ⟨by omega, by omega, fun z => absurd e6 z⟩
    · rw [if_neg e6] at hc1 hs1
      exact ⟨by omega, by omega, fun _ => ⟨hc1, hs1⟩⟩
  generalize hvc : (if k = 6 then Int32.ofNat (pu_sum (pu_cand a w h nb nc) (w * h)) else vu) = vc
  -- dug
  refine dq_jn (fun v => v = if k = 8 then Int32.ofNat (pu_sum (pu_dug a) (w * h)) else vc) (fun vd hvd => ?_) (fun j hj => dq_if (fun z => hj _ (by rw [if_neg (fun e => z (k8.mpr e))])) (fun z => dq_ck Isv (dq_nn q3 (dq_ck ⟨hcs.1, hcs.2.1⟩ (dq_many A1v (fun c hc => (A1iv c hc).trans (pu_dugV H hc)) hle (by omega) (hj _ (by rw [if_pos (k8.mp (Classical.not_not.mp z))])))))))
  -- the rest
  have hout : ∀ x : Int32 × dw_S × Nat × Nat, x.1 = pu_tv a w h nb nc (pu_np a w h nb nc) k → dq_use th ι Y x.2.1 → x.2.2.1 ≤ tc → x.2.2.2 ≤ ts → pw_ck (x.2.2.1 ≤ tc ∧ x.2.2.2 ≤ ts) (Q (x.1, x.2.1)) := fun x z1 z2 z3 z4 => dq_ck ⟨z3, z4⟩ (hQ _ z1 z2)
  refine dq_jn (fun x => x.1 = pu_tv a w h nb nc (pu_np a w h nb nc) k ∧ dq_use th ι Y x.2.1 ∧ x.2.2.1 ≤ tc ∧ x.2.2.2 ≤ ts) (fun x hx => hout x hx.1 hx.2.1 hx.2.2.1 hx.2.2.2) (fun j hj => ?_)
  have hgo : ∀ v : Int32, v = pu_tv a w h nb nc (pu_np a w h nb nc) k → j (v, Yv, cc, ss) := fun v e => hj _ ⟨e, Fv, hcs.1, hcs.2.1⟩
  refine dq_if (fun z0 => dq_if (fun z1 => dq_if (fun z3 => dq_if (fun z4 => dq_if (fun z7 => dq_if (fun z9 => dq_if (fun z10 => dq_if (fun z11 => dq_if (fun z12 => hgo _ ?_) (fun z => dq_ck Isv (hgo _ ?_))) (fun z => dq_ck Isv (hgo _ ?_))) (fun z => dq_ck Isv (hgo _ ?_))) (fun z => ?_)) (fun z => ?_)) (fun z => dq_ck Isv (dq_nn q6 (dq_ck C1v.1 (hgo _ ?_))))) (fun z => dq_ck Isv (dq_nn q5 (dq_ck B1v.1 (hgo _ ?_))))) (fun z => dq_ck Isv (hgo _ ?_))) (fun z => dq_ck Isv (hgo _ ?_))
  · rw [k0] at z0
    rw [k1] at z1
    rw [k3] at z3
    rw [k4] at z4
    rw [k7] at z7
    rw [k9] at z9
    rw [k10] at z10
    rw [k11] at z11
    rw [k12] at z12
    have hcase : k = 2 ∨ k = 5 ∨ k = 6 ∨ k = 8 := by omega
    rw [hvd, ← hvc, hvu, hvm]
    rcases hcase with e | e | e | e <;> subst e <;> rfl
  · rw [k12.mp (Classical.not_not.mp z)]; exact g9
  · rw [k11.mp (Classical.not_not.mp z)]; exact g8
  · rw [k10.mp (Classical.not_not.mp z)]; exact g7
  · have e9 := k9.mp (Classical.not_not.mp z)
    obtain ⟨u1, u2⟩ := t6 (Or.inr (Or.inr e9))
    obtain ⟨u3, u4⟩ := hcs.2.2 (by omega)
    refine dq_ck ⟨Isv, by omega, by omega⟩ (dq_left H S Iv (by omega) (fun r R => ?_))
    have Ir := dq_I_use R.1 Iv
    refine dq_ck ⟨Ir.1, by omega, by omega⟩ (dq_partsM H S.1 Ir R.2.1 R.2.2.2 (fun d => pu_left_land) hn (fun r2 e2 F2 => hj _ ⟨?_, dq_fr_tr Fv (dq_fr_tr R.1 F2), by dsimp only []; omega, by dsimp only []; omega⟩))
    dsimp only []
    rw [e2, e9]; rfl
  · have e7 := k7.mp (Classical.not_not.mp z)
    obtain ⟨u1, u2⟩ := t6 (Or.inr (Or.inl e7))
    obtain ⟨u3, u4⟩ := hcs.2.2 (by omega)
    refine dq_ck ⟨Isv, by omega, by omega⟩ (dq_left H S Iv (by omega) (fun r R => dq_ck ⟨by omega, by omega⟩ (dq_many R.2.1 R.2.2.2 hle (by omega) (hj _ ⟨?_, dq_fr_tr Fv R.1, by dsimp only []; omega, by dsimp only []; omega⟩))))
    dsimp only []
    rw [e7]; rfl
  · rw [C1v.2, k4.mp (Classical.not_not.mp z)]; exact H.2.2.1.1.symm
  · rw [B1v.2, k3.mp (Classical.not_not.mp z)]; exact H.2.1.1.symm
  · rw [k1.mp (Classical.not_not.mp z)]; exact g1.trans H.1.2.1.symm
  · rw [k0.mp (Classical.not_not.mp z)]; exact g0.trans H.1.1.symm
end DQO
