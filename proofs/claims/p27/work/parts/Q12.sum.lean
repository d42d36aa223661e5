/-! the checksum of the law's island -/
section DQX
variable {a : Nat → Int32} {w h nb nc s c n : Nat} {Y Y0 Y' : dw_S} {th : Nat} {ι : Nat → Nat}
def dq_tcS (k : Nat) : Nat := (if 6 < k then 126 else 0) + (if 7 < k then 126 else 0) + (if 9 < k then 126 else 0)
def dq_tsS (k : Nat) : Nat := (if 6 < k then 9504 else 0) + (if 7 < k then 9504 else 0) + (if 9 < k then 9504 else 0)
theorem dq_tcS_S {k : Nat} (hk : k ≤ 12) : dq_tcS k + dq_tcN k = dq_tcS (k + 1) ∧ dq_tsS k + dq_tsN k = dq_tsS (k + 1) ∧ dq_tcS (k + 1) ≤ 378 ∧ dq_tsS (k + 1) ≤ 28512 := by
  have key : ∀ k : Fin 13, dq_tcS k.val + dq_tcN k.val = dq_tcS (k.val + 1) ∧ dq_tsS k.val + dq_tsN k.val = dq_tsS (k.val + 1) ∧ dq_tcS (k.val + 1) ≤ 378 ∧ dq_tsS (k.val + 1) ≤ 28512 := by decide +kernel
  exact key ⟨k, by omega⟩
theorem dq_fold_S {f : Nat → Int32} {s : Int64} {m : Nat} : pu_fold f s (m + 1) = (31 : Int64) * pu_fold f s m + Int32.toInt64 (f m) := rfl
theorem dq_hb2 {su q L : Nat} (h : su ≤ 37056 + 11352 * q + 2838 * L) (hL : L ≤ 4) : su ≤ 37056 + 11352 * (q + 1) := by
  have h1 : 2838 * L ≤ 2838 * 4 := Nat.mul_le_mul_left _ hL
  have h2 : 11352 * (q + 1) = 11352 * q + 11352 := Nat.mul_succ 11352 q
  rw [h2]
  generalize 11352 * q = x at *
  generalize 2838 * L = y at *
  omega
set_option maxHeartbeats 2000000 in
theorem dq_sum (H : pu_WF a w h nb nc) (S : dq_sm a w h nc) (I : dq_I Y th ι a w h nb nc) (hn : 700000 < n) {Q : Int64 × dw_S → Prop} (hQ : ∀ r, r.1 = pu_f3 a w h nb nc nc → dq_use th ι Y r.2 → Q r) : dw_P_X13_checksum n th Y Q := by
  have hle := pu_wfm_le H.1
  obtain ⟨S1, S2, S3⟩ := id S
  dsimp only [dw_P_X13_checksum, pw_lt]
  refine dq_for 13 (fun i v => v.1 = pu_fold (pu_tv a w h nb nc (pu_np a w h nb nc)) 0 i ∧ v.2.1 = Int32.ofNat i ∧ dq_use th ι Y v.2.2.1 ∧ v.2.2.2.1 = dq_tcS i ∧ v.2.2.2.2 = dq_tsS i) (fun k2 i v hi hv hk2 => ?_) (fun k2 v hv => ?_) (by omega) ⟨rfl, rfl, (show dq_use th ι Y Y from dq_fr_refl), rfl, rfl⟩
  all_goals
    obtain ⟨v1, v2, Yv, cc, ss⟩ := v
    obtain ⟨hv1, hv2, Fv, hc1, hs1⟩ := hv
    dsimp only [] at hv1 hv2 Fv hc1 hs1
    dsimp only []
    subst hv2
    have Iv := dq_I_use Fv I
  · obtain ⟨htc, hts⟩ := dq_tcs (k := i) (by omega)
    obtain ⟨t1, t2, t3, t4⟩ := dq_tcS_S (k := i) (by omega)
    rw [htc, hts]
    refine dq_iff (by rw [show (13 : Int32) = Int32.ofNat 13 from rfl, pu_le (by omega) (by omega)]; omega) (dq_ck ⟨Iv.1, by omega, by omega⟩ (dq_told H S Iv hn (by omega) (fun r e F2 => hk2 _ ⟨?_, pu_add i 1, dq_fr_tr Fv F2, by dsimp only []; omega, by dsimp only []; omega⟩)))
    dsimp only []
    rw [dq_fold_S, hv1, e]
  have hc1 : cc = 378 := hc1
  have hs1 : ss = 28512 := hs1
  refine dq_ift (by decide) (dq_ck ⟨Iv.1, by omega, by omega⟩ (dq_reasons H S Iv (by omega) (fun r R => ?_)))
  have Fr : dq_use th ι Y r.2 := dq_fr_tr Fv R.1
  have Ir := dq_I_use R.1 Iv
  obtain ⟨Isr, -, ⟨r2, r3, -, -, r6, -⟩, ⟨⟨A0, A0i⟩, ⟨A1, A1i⟩, -⟩, -, ⟨C1, -⟩, -⟩ := id Ir
  -- the cells
  refine dq_for (w * h) (fun i v => v = (pu_fold (pu_cv a w h nb nc) (pu_f1 a w h nb nc 13) i, Int32.ofNat i)) (fun k2 i v hi hv hk2 => ?_) (fun k2 v hv => ?_) (by omega) (by rw [hv1]; rfl)
  all_goals
    subst hv
    dsimp only []
    rw [R.2.1.2]
  · rw [pu_n (by omega)]
    refine dq_ck R.2.1.1 (dq_iff (by rw [pu_le (by omega) (by omega)]; omega) (dq_ck Isr (dq_nn r2 (dq_ck (dq_A1_ok A0 hi (by omega)) ?_))))
    rw [A0i i hi, R.2.2.2 i hi]
    refine dq_jn (fun v => v = pu_cv a w h nb nc i) (fun v hv => hk2 _ ?_) (fun j hj => dq_if (fun z => ?_) (fun z => hj _ ?_))
    · rw [hv]
      exact congrArg (fun z => (_, z)) (pu_add i 1)
    · have hl : pu_land a i = true := decide_eq_true z
      refine dq_ck ⟨R.2.1.1, pu_ok (by omega) hi⟩ (dq_jn (fun v => v = if pu_cand a w h nb nc i = false then 1 else 3) (fun v hv => dq_ck Isr (dq_nn r3 (dq_ck (dq_A1_ok A1 hi (by omega)) ?_))) (fun j2 hj2 => dq_if (fun y => hj2 _ ?_) (fun y => hj2 _ ?_)))
      · rw [A1i i hi, pu_dugV H hi]
        refine dq_jn (fun u => u = pu_b1 (pu_dug a i)) (fun u hu => hj _ ?_) (fun j2 hj2 => dq_if (fun y => hj2 _ ?_) (fun y => hj2 _ ?_))
        · rw [hv, hu]
          unfold pu_cv
          rw [hl]
          exact (if_neg (show ¬ (true = false) by decide)).symm
        · rw [pu_b1_0.mp y]; rfl
        · rw [pu_bF (fun e => y (pu_b1_0.mpr e))]; rfl
      · rw [if_pos]
        cases e : pu_cand a w h nb nc i
        · rfl
        · exact absurd ((dq_why0 H).mpr e) y
      · rw [(dq_why0 H).mp (Classical.not_not.mp y), if_neg (by decide)]
    · unfold pu_cv
      rw [if_pos (by unfold pu_land; rw [decide_eq_false z])]
  refine dq_ck R.2.1.1 (dq_ift ((pu_le (by omega) (by omega)).mpr (Nat.le_refl _)) ?_)
  -- the clues
  refine dq_for nc (fun q v => v.1 = pu_f3 a w h nb nc q ∧ v.2.1 = Int32.ofNat q ∧ dq_use th ι Y v.2.2.1 ∧ v.2.2.2.1 ≤ 472 + 124 * q ∧ v.2.2.2.2 ≤ 37056 + 11352 * q) (fun k2 q v hq hv hk2 => ?_) (fun k2 v hv => ?_) (by omega) ⟨rfl, rfl, Fr, by dsimp only []; omega, by dsimp only []; omega⟩
  all_goals
    obtain ⟨v1, v2, Yt, ct, st⟩ := v
    obtain ⟨hv1', hv2, Ft, hct, hst⟩ := hv
    dsimp only [] at hv1' hv2 Ft hct hst
    dsimp only []
    subst hv2
    obtain ⟨Ist, -, ⟨-, -, -, -, r6t, -⟩, -, -, ⟨C1t, C2t⟩, -⟩ := dq_I_use Ft I
  · obtain ⟨⟨d1, d2, d3, -, -⟩, -⟩ := C2t q hq
    have S4 := S3 q hq
    refine dq_ck Ist (dq_nn r6t (dq_ck C1t.1 ?_))
    rw [C1t.2]
    refine dq_iff (by rw [pu_le (by omega) (by omega)]; omega) (dq_ck Ist (dq_nn r6t (dq_ck (dq_A1_ok C1t hq (by omega)) (dq_nn (by rw [pu_n (by omega)]; exact d1) (dq_ck d2 ?_)))))
    rw [d3]
    refine dq_jn (fun v => v = a (pu_cl q)) (fun v hv => ?_) (fun j hj => dq_if (fun z => hj _ z.symm) (fun z => hj _ ?_))
    rotate_left
    · exact ((dq_use01 H hq).elim (fun e => absurd e z) id).symm
    subst hv
    refine dq_for (pu_nl a q + 1) (fun l v => v.1 = pu_fold (pu_rv a w h nb q) ((31 : Int64) * pu_f3 a w h nb nc q + Int32.toInt64 (a (pu_cl q))) l ∧ v.2.1 = Int32.ofNat q ∧ v.2.2.1 = Int32.ofNat l ∧ dq_use th ι Y v.2.2.2.1 ∧ v.2.2.2.2.1 ≤ 472 + 124 * q + 31 * l ∧ v.2.2.2.2.2 ≤ 37056 + 11352 * q + 2838 * l) (fun k3 l v hl hv hk3 => ?_) (fun k3 v hv => ?_) (by omega) ⟨by dsimp only []; rw [hv1']; rfl, rfl, rfl, Ft, by dsimp only []; omega, by dsimp only []; omega⟩
    all_goals
      obtain ⟨v1, v2, v3, Yu, cu, su⟩ := v
      obtain ⟨hv1'', hv2, hv3, Fu, hcu, hsu⟩ := hv
      dsimp only [] at hv1'' hv2 hv3 Fu hcu hsu
      dsimp only []
      subst hv2 hv3
      have Iu := dq_I_use Fu I
      obtain ⟨Isu, -, ⟨-, -, -, -, r6u, -⟩, -, -, ⟨C1u, C2u⟩, -⟩ := id Iu
      obtain ⟨⟨e1, e2, -, -, e5⟩, -, e8, -⟩ := C2u q hq
      refine dq_ck Isu (dq_nn r6u (dq_ck (dq_A1_ok C1u hq (by omega)) (dq_nn (by rw [pu_n (by omega)]; exact e1) (dq_ck e2 (dq_nn e5 (dq_ck e8.1 ?_))))))
      rw [e8.2]
    · refine dq_iff (by rw [pu_ltn (by omega) (by omega)]; omega) (dq_ck ⟨Isu, by omega, by omega⟩ (dq_walks H S Iu hq (by omega) (by omega) (fun r2 W2 => ?_)))
      obtain ⟨w1, fo, w2, -⟩ := W2
      refine hk3 _ ⟨?_, rfl, pu_add l 1, dq_fr_tr Fu w2.1, by dsimp only []; omega, by dsimp only []; omega⟩
      dsimp only []
      rw [dq_fold_S, hv1'', w1]
      rfl
    · have hb0 := S4.2.1
      have hb1 : cu ≤ 472 + 124 * (q + 1) := by clear hv1'' hv1' hsu; omega
      have hb2 : su ≤ 37056 + 11352 * (q + 1) := dq_hb2 hsu (by omega)
      refine dq_ift (by rw [pu_ltn (by omega) (by omega)]; omega) (hk2 _ ⟨?_, pu_add q 1, Fu, hb1, hb2⟩)
      dsimp only []
      rw [hv1'', pu_f3_S]
  · refine dq_ck Ist (dq_nn r6t (dq_ck C1t.1 ?_))
    rw [C1t.2]
    exact (dq_ift ((pu_le (by omega) (by omega)).mpr (Nat.le_refl _)) (dq_ck ⟨by omega, by omega⟩ (hQ _ hv1' Ft)))
end DQX
