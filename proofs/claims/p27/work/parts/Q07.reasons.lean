/-! reasons and what is left -/
section DQS
variable {a : Nat → Int32} {w h nb nc q l c b n : Nat} {Y Y0 Y' : dw_S} {th : Nat} {ι : Nat → Nat}
/-- a new row r of the kind kd with f in it, the island only used -/
def dq_RQ (Y0 : dw_S) (th : Nat) (ι : Nat → Nat) (kd m r : Nat) (f : Nat → Int32) (Y : dw_S) : Prop := dq_use th ι Y0 Y ∧ dq_A1 Y r kd m ∧ dw_n Y0 ≤ r ∧ ∀ c, c < m → dw_i Y r c = f c
theorem dq_RQ_new {kd m x : Nat} {v : Int32} {g : Nat → Option Nat} (F : dq_use th ι Y0 Y) (h4 : 442 ≤ dw_n Y) (hx : dw_n Y ≤ x) : dq_RQ Y0 th ι kd m x (fun _ => v) (dw_nw Y x kd m (fun _ => v) g) := ⟨dq_fr_nw F hx, dq_A1_new h4 hx, Nat.le_trans F.2.1 hx, fun c _ => by rw [dw_nw_i]⟩
theorem dq_RQ_set {kd m r i : Nat} {v : Int32} {f g : Nat → Int32} (R : dq_RQ Y0 th ι kd m r f Y) (hg : ∀ c, c < m → g c = if c = i then v else f c) : dq_RQ Y0 th ι kd m r g (dw_pi Y r i v) := by
  obtain ⟨R1, R2, R3, R4⟩ := R
  refine ⟨dq_fr_pi R1 (fun z => absurd z (by omega)), R2, R3, fun c hc => ?_⟩
  rw [hg c hc, dq_i_pi]
  by_cases e : c = i
  · rw [if_pos ⟨rfl, e⟩, if_pos e]
  · rw [if_neg (fun z => e z.2), if_neg e]; exact R4 c hc
theorem dq_RQ_ext {kd m r : Nat} {f g : Nat → Int32} (R : dq_RQ Y0 th ι kd m r f Y) (hg : ∀ c, c < m → g c = f c) : dq_RQ Y0 th ι kd m r g Y := ⟨R.1, R.2.1, R.2.2.1, fun c hc => (R.2.2.2 c hc).trans (hg c hc).symm⟩
theorem dq_RQ_use {kd m r : Nat} {f : Nat → Int32} (h5 : ι 5 < dw_n Y0) (R : dq_RQ Y0 th ι kd m r f Y) (F : dq_use th ι Y Y') : dq_RQ Y0 th ι kd m r f Y' := by
  obtain ⟨R1, R2, R3, R4⟩ := R
  refine ⟨dq_fr_tr R1 F, dq_A1_fr F R2, R3, fun c hc => ?_⟩
  rw [F.2.2.2.1 r c R2.1.1 (fun e => by omega)]
  exact R4 c hc
/-- the reason as far as the clues from j on tell -/
noncomputable def dq_rw (a : Nat → Int32) (w h nb nc j c : Nat) : Int32 := match pu_first (fun q => decide (j ≤ q) && pu_bad a w h nb c q) nc with | some q => Int32.ofNat (q + 1) | none => 0
theorem dq_first_none {p : Nat → Bool} : ∀ n, (∀ i, i < n → p i = false) → pu_first p n = none
  | 0, _ => rfl
  | n + 1, hp => pu_first_go (dq_first_none n (fun i hi => hp i (by omega))) (hp n (by omega))
theorem dq_rw_end : dq_rw a w h nb nc nc c = 0 := by
  unfold dq_rw
  rw [dq_first_none nc (fun i hi => by rw [decide_eq_false (by omega)]; rfl)]
theorem dq_rw_bad {j : Nat} (hj : j < nc) (hb : pu_bad a w h nb c j = true) : dq_rw a w h nb nc j c = Int32.ofNat (j + 1) := by
  unfold dq_rw
  rw [pu_first_at (i := j) (dq_first_none j (fun i hi => by rw [decide_eq_false (by omega)]; rfl)) (by rw [decide_eq_true (Nat.le_refl j)]; exact hb) hj]
theorem dq_rw_ok {j : Nat} (hb : pu_bad a w h nb c j = false) : dq_rw a w h nb nc j c = dq_rw a w h nb nc (j + 1) c := by
  unfold dq_rw
  rw [pu_first_cong (q := fun q => decide (j + 1 ≤ q) && pu_bad a w h nb c q) (fun i hi => ?_)]
  by_cases e : i = j
  · subst e
    rw [hb, Bool.and_false, Bool.and_false]
  · by_cases g : j ≤ i
    · rw [decide_eq_true g, decide_eq_true (show j + 1 ≤ i by omega)]
    · rw [decide_eq_false g, decide_eq_false (show ¬ j + 1 ≤ i by omega)]
theorem dq_rw_0 : dq_rw a w h nb nc 0 c = match pu_first (pu_bad a w h nb c) nc with | some q => Int32.ofNat (q + 1) | none => 0 := by
  unfold dq_rw
  rw [pu_first_cong (q := pu_bad a w h nb c) (fun i _ => by rw [decide_eq_true (Nat.zero_le i)]; rfl)]
theorem dq_dec {z : Int} : Int32.ofInt z + (-1 : Int32) = Int32.ofInt (z - 1) := by
  have e : (-1 : Int32) = Int32.ofInt (-1) := rfl
  rw [e, ← Int32.ofInt_add]
  congr 1
theorem dq_use01 (H : pu_WF a w h nb nc) (hq : q < nc) : a (pu_cl q) = 0 ∨ a (pu_cl q) = 1 := (H.2.2.1.2.2 q hq).1
set_option maxHeartbeats 1000000 in
theorem dq_reasons (H : pu_WF a w h nb nc) (S : dq_sm a w h nc) (I : dq_I Y th ι a w h nb nc) (hn : 500 < n) {Q : Nat × dw_S → Prop} (hQ : ∀ r, dq_RQ Y th ι 20 (w * h) r.1 (dq_why a w h nb nc) r.2 → Q r) : dw_P_X13_reasons n th Y Q := by
  have hle := pu_wfm_le H.1
  obtain ⟨S1, S2, S3⟩ := id S
  obtain ⟨Is, ⟨f0, f1, -⟩, -, -, -, -, ⟨N1, -⟩⟩ := id I
  have h4 : 442 ≤ dw_n Y := by have := Is.1; have := Is.2.1; omega
  have hN5 := N1.1.1
  dsimp only [dw_P_X13_reasons, pw_lt]
  rw [f0, f1, pu_mul, pu_n (by omega)]
  refine dq_ck Is (dq_ck Is (dq_ck ⟨⟨pu_nn (by omega), by omega⟩, by omega, by omega⟩ (fun x hx => ?_)))
  dsimp only []
  have R0 : dq_RQ Y th ι 20 (w * h) x (fun _ => 0) (dw_nw Y x 20 (w * h) (fun _ => 0) fun _ => none) := dq_RQ_new dq_fr_refl h4 hx
  generalize dw_nw Y x 20 (w * h) (fun _ => 0) (fun _ => none) = Y2 at R0
  have I2 := dq_I_use R0.1 I
  obtain ⟨Is2, -, ⟨-, -, -, -, r42, -⟩, -, -, ⟨C12, -⟩, -⟩ := id I2
  refine dq_ck Is2 (dq_nn r42 (dq_ck C12.1 ?_))
  rw [C12.2]
  have hz0 : Int32.ofNat nc - (1 : Int32) = Int32.ofInt ((nc : Int) - 0 - 1) := by
    have e : (1 : Int32) = Int32.ofNat 1 := rfl
    rw [e, dq_subI]
    exact congrArg Int32.ofInt (by omega)
  refine dq_for nc (fun i v => v.1 = Int32.ofInt ((nc : Int) - (i : Int) - 1) ∧ dq_RQ Y th ι 20 (w * h) x (dq_rw a w h nb nc (nc - i)) v.2.1 ∧ v.2.2.1 ≤ 1 + 31 * i ∧ v.2.2.2 ≤ w * h + 2838 * i) (fun kk i v hi hv hkk => ?_) (fun kk v hv => ?_) (by omega) ⟨hz0, dq_RQ_ext R0 (fun c _ => dq_rw_end), by dsimp only []; omega, by dsimp only []; omega⟩
  all_goals
    obtain ⟨v1, Yv, cc, ss⟩ := v
    obtain ⟨hv1, Rv, hcs, hss⟩ := hv
    dsimp only [] at hv1 Rv hcs hss
    dsimp only []
    subst hv1
  · obtain ⟨q, hq⟩ : ∃ q, nc = q + 1 + i := ⟨nc - i - 1, by omega⟩
    have hqn : q < nc := by omega
    have Iv := dq_I_use Rv.1 I
    obtain ⟨Isv, -, ⟨-, -, -, -, r4v, -⟩, -, -, ⟨C1v, C2v⟩, -⟩ := id Iv
    obtain ⟨⟨d1, d2, d3, d4, d5⟩, -, d8, -⟩ := C2v q hqn
    have e1 : Int32.ofInt ((nc : Int) - (i : Int) - 1) = Int32.ofNat q := dq_oI (by omega)
    have e2 : nc - i = q + 1 := by omega
    have e3 : nc - (i + 1) = q := by omega
    rw [e2] at Rv
    rw [e1]
    refine dq_iff (pu_nn (by omega)) (dq_ck Isv (dq_nn r4v (dq_ck (dq_A1_ok C1v hqn (by omega)) (dq_nn (by rw [pu_n (by omega)]; exact d1) (dq_ck d2 ?_)))))
    rw [d3]
    refine dq_jn (fun v => v.1 = Int32.ofNat q ∧ dq_RQ Y th ι 20 (w * h) x (dq_rw a w h nb nc q) v.2.1 ∧ v.2.2.1 ≤ 1 + 31 * (i + 1) ∧ v.2.2.2 ≤ w * h + 2838 * (i + 1)) (fun v hv => hkk _ ?_) (fun j hj => dq_if (fun z => ?_) (fun z => hj _ ⟨rfl, dq_RQ_ext Rv (fun c _ => dq_rw_ok ?_), by dsimp only []; omega, by dsimp only []; omega⟩))
    · obtain ⟨z1, z2, z3, z4⟩ := hv
      refine ⟨?_, by rw [e3]; exact z2, z3, z4⟩
      dsimp only []
      rw [z1, ← e1, dq_dec]
      congr 1
      omega
    · -- used
      have hu : a (pu_cl q) = 1 := (dq_use01 H hqn).elim (fun e => absurd e z) id
      refine dq_ck Isv (dq_nn r4v (dq_ck (dq_A1_ok C1v hqn (by omega)) (dq_nn (by rw [pu_n (by omega)]; exact d1) (dq_ck d2 (dq_nn d5 (dq_ck d8.1 (dq_ck ⟨Isv, by omega, by omega⟩ ?_)))))))
      rw [d8.2]
      refine dq_walks H S Iv hqn hn (Nat.le_refl _) (fun r hr => ?_)
      obtain ⟨-, fo, Wr, hfd⟩ := hr
      have Rr := dq_RQ_use hN5 Rv Wr.1
      have hfox : x ≠ fo := by have := Rv.2.1.1.1; have := Wr.2.2.2.1; omega
      refine dq_for (w * h) (fun k v => v.1 = Int32.ofNat q ∧ v.2.1 = Int32.ofNat k ∧ dq_RQ Y th ι 20 (w * h) x (fun c => if c < k then dq_rw a w h nb nc q c else dq_rw a w h nb nc (q + 1) c) v.2.2 ∧ dw_r v.2.2 th 11 = some fo ∧ dq_A1 v.2.2 fo 26 (w * h) ∧ ∀ d, dw_r v.2.2 fo d = dw_r r.2 fo d) (fun k2 k v hk hv hk2 => ?_) (fun k2 v hv => ?_) (by omega) ⟨rfl, rfl, dq_RQ_ext Rr (fun c _ => if_neg (Nat.not_lt_zero c)), Wr.2.1, Wr.2.2.1, fun _ => rfl⟩
      all_goals
        obtain ⟨v1, v2, Yw⟩ := v
        obtain ⟨hv1, hv2, Rw, hfo, Afo, hfe⟩ := hv
        dsimp only [] at hv1 hv2 Rw hfo Afo hfe
        dsimp only []
        subst hv1 hv2
        have Iw := dq_I_use Rw.1 I
      · rw [Rw.2.1.2, pu_n (by omega)]
        have hfw := hfd k hk
        unfold dq_fd at hfw
        rw [← hfe] at hfw
        refine dq_ck Rw.2.1.1 (dq_iff (by rw [pu_le (by omega) (by omega)]; omega) (dq_ck Iw.1 (dq_nn hfo (dq_ck (dq_A1_ok Afo hk (by omega)) ?_))))
        have hstep : ∀ (v : Int32) (c : Nat), v = dq_rw a w h nb nc q k → (if c < k + 1 then dq_rw a w h nb nc q c else dq_rw a w h nb nc (q + 1) c) = if c = k then v else if c < k then dq_rw a w h nb nc q c else dq_rw a w h nb nc (q + 1) c := by
          intro v c e
          by_cases e1 : c = k
          · rw [if_pos e1, if_pos (by omega), e, e1]
          · rw [if_neg e1]
            by_cases e2 : c < k
            · rw [if_pos e2, if_pos (by omega)]
            · rw [if_neg e2, if_neg (by omega)]
        refine dq_jn (fun v => dq_RQ Y th ι 20 (w * h) x (fun c => if c < k + 1 then dq_rw a w h nb nc q c else dq_rw a w h nb nc (q + 1) c) v ∧ dw_r v th 11 = some fo ∧ dq_A1 v fo 26 (w * h) ∧ ∀ d, dw_r v fo d = dw_r r.2 fo d) (fun v hv => hk2 _ ⟨rfl, pu_add k 1, hv⟩) (fun j2 hj2 => dq_mt (fun e => ?_) (fun y e => hj2 _ ⟨dq_RQ_ext Rw (fun c hc => ?_), hfo, Afo, hfe⟩))
        · have hbad : pu_bad a w h nb k q = true := by
            refine pu_B_t ⟨hu, fun z2 => ?_⟩
            have := hfw.mpr z2
            rw [e] at this
            cases this
          refine dq_ck ⟨Rw.2.1.1, pu_ok (by omega) hk⟩ (hj2 _ ⟨dq_RQ_set Rw (fun c _ => hstep _ c ?_), hfo, Afo, hfe⟩)
          rw [dq_rw_bad hqn hbad]
          exact pu_add q 1
        · have hbad : pu_bad a w h nb k q = false := pu_B_f (fun z2 => z2.2 (hfw.mp (by rw [e]; rfl)))
          rw [hstep _ c rfl]
          by_cases e1 : c = k
          · rw [if_pos e1, e1, if_neg (Nat.lt_irrefl k), dq_rw_ok hbad]
          · rw [if_neg e1]
      · rw [Rw.2.1.2]
        refine dq_ck Rw.2.1.1 (dq_ift ((pu_le (by omega) (by omega)).mpr (Nat.le_refl _)) (hj _ ⟨rfl, dq_RQ_ext Rw (fun c hc => (if_pos hc).symm), by dsimp only []; omega, by dsimp only []; omega⟩))
    · exact pu_B_f (fun y => z (fun e => by rw [e] at y; exact absurd y.1 (by decide)))
  · -- water
    rw [show Int32.ofInt ((nc : Int) - (nc : Int) - 1) = (-1 : Int32) by rw [show (nc : Int) - (nc : Int) - 1 = -1 by omega]; rfl]
    rw [Nat.sub_self] at Rv
    refine dq_ift (by decide) ?_
    refine dq_for (w * h) (fun k v => v.1 = Int32.ofNat k ∧ dq_RQ Y th ι 20 (w * h) x (fun c => if c < k then dq_why a w h nb nc c else dq_rw a w h nb nc 0 c) v.2.1 ∧ v.2.2.1 = cc ∧ v.2.2.2 = ss) (fun k2 k v hk hv hk2 => ?_) (fun k2 v hv => ?_) (by omega) ⟨rfl, dq_RQ_ext Rv (fun c _ => if_neg (Nat.not_lt_zero c)), rfl, rfl⟩
    all_goals
      obtain ⟨v1, Yw, c2, s2⟩ := v
      obtain ⟨hv1, Rw, hc2, hs2⟩ := hv
      dsimp only [] at hv1 Rw hc2 hs2
      dsimp only []
      subst hv1 hc2 hs2
      obtain ⟨Isw, -, ⟨r2w, -⟩, ⟨⟨A0, A1⟩, -⟩, -⟩ := dq_I_use Rw.1 I
    · rw [Rw.2.1.2, pu_n (by omega)]
      have hstep : ∀ (v : Int32) (c : Nat), v = dq_why a w h nb nc k → (if c < k + 1 then dq_why a w h nb nc c else dq_rw a w h nb nc 0 c) = if c = k then v else if c < k then dq_why a w h nb nc c else dq_rw a w h nb nc 0 c := by
        intro v c e
        by_cases e1 : c = k
        · rw [if_pos e1, if_pos (by omega), e, e1]
        · rw [if_neg e1]
          by_cases e2 : c < k
          · rw [if_pos e2, if_pos (by omega)]
          · rw [if_neg e2, if_neg (by omega)]
      refine dq_ck Rw.2.1.1 (dq_iff (by rw [pu_le (by omega) (by omega)]; omega) (dq_ck Isw (dq_nn r2w (dq_ck (dq_A1_ok A0 hk (by omega)) ?_))))
      rw [A1 k hk]
      refine dq_jn (fun v => dq_RQ Y th ι 20 (w * h) x (fun c => if c < k + 1 then dq_why a w h nb nc c else dq_rw a w h nb nc 0 c) v) (fun v hv => hk2 _ ⟨pu_add k 1, hv, rfl, rfl⟩) (fun j2 hj2 => dq_if (fun z => hj2 _ (dq_RQ_ext Rw (fun c hc => ?_))) (fun z => dq_ck ⟨Rw.2.1.1, pu_ok (by omega) hk⟩ (hj2 _ (dq_RQ_set Rw (fun c _ => hstep _ c ?_)))))
      · rw [hstep _ c rfl]
        by_cases e1 : c = k
        · rw [if_pos e1, e1, if_neg (Nat.lt_irrefl k), dq_rw_0]
          unfold dq_why
          rw [if_neg (by unfold pu_land; rw [decide_eq_true z]; decide)]
          cases pu_first (pu_bad a w h nb k) nc <;> rfl
        · rw [if_neg e1]
      · unfold dq_why
        rw [if_pos (by unfold pu_land; rw [decide_eq_false z])]
    · rw [Rw.2.1.2]
      exact dq_ck Rw.2.1.1 (dq_ift ((pu_le (by omega) (by omega)).mpr (Nat.le_refl _)) (dq_ck ⟨by omega, by omega⟩ (hQ _ (dq_RQ_ext Rw (fun c hc => (if_pos hc).symm)))))
theorem dq_why0 (H : pu_WF a w h nb nc) : dq_why a w h nb nc c = 0 ↔ pu_cand a w h nb nc c = true := by
  have h4 := H.2.2.1.2.1
  unfold dq_why pu_cand
  cases hl : pu_land a c
  · rw [if_pos rfl, Bool.false_and]
    exact ⟨fun z => absurd z (by decide), fun z => by cases z⟩
  · rw [if_neg (by decide), Bool.true_and]
    cases hf : pu_first (pu_bad a w h nb c) nc with
    | none => exact ⟨fun _ => rfl, fun _ => rfl⟩
    | some q =>
      have := pu_first_lt hf
      exact ⟨fun z => by have := (pu_eq (b := 0) (by omega) (by omega)).mp z; omega, fun z => by cases z⟩
theorem dq_left (H : pu_WF a w h nb nc) (S : dq_sm a w h nc) (I : dq_I Y th ι a w h nb nc) (hn : 500 < n) {Q : Nat × dw_S → Prop} (hQ : ∀ r, dq_RQ Y th ι 21 (w * h) r.1 (fun c => pu_b1 (pu_left a w h nb nc c)) r.2 → Q r) : dw_P_X13_left n th Y Q := by
  have hle := pu_wfm_le H.1
  obtain ⟨S1, S2, S3⟩ := id S
  obtain ⟨Is, -, -, -, -, -, ⟨N1, -⟩⟩ := id I
  have h4 : 442 ≤ dw_n Y := by have := Is.1; have := Is.2.1; omega
  have hN5 := N1.1.1
  dsimp only [dw_P_X13_left, pw_lt]
  refine dq_ck Is (dq_reasons H S I hn (fun r R => ?_))
  rw [R.2.1.2, pu_n (by omega)]
  refine dq_ck R.2.1.1 (dq_ck ⟨⟨pu_nn (by omega), by omega⟩, by omega, by omega⟩ (fun x hx => ?_))
  dsimp only []
  have hn1 := R.1.2.1
  have hr := R.2.1.1.1
  have R0 : dq_RQ Y th ι 21 (w * h) x (fun _ => 0) (dw_nw r.2 x 21 (w * h) (fun _ => 0) fun _ => none) := dq_RQ_new R.1 (by omega) hx
  have Rr : dq_A1 (dw_nw r.2 x 21 (w * h) (fun _ => 0) fun _ => none) r.1 20 (w * h) ∧ ∀ c, c < w * h → dw_i (dw_nw r.2 x 21 (w * h) (fun _ => 0) fun _ => none) r.1 c = dq_why a w h nb nc c := ⟨dq_A1_fr (Si := fun _ _ => False) (Sr := fun _ _ => False) (dq_fr_nw dq_fr_refl hx) R.2.1, fun c hc => by rw [dq_i_nw_n (by omega)]; exact R.2.2.2 c hc⟩
  generalize dw_nw r.2 x 21 (w * h) (fun _ => 0) (fun _ => none) = Y2 at R0 Rr
  have hrx : r.1 ≠ x := by omega
  refine dq_for (w * h) (fun k v => v.1 = Int32.ofNat k ∧ dq_RQ Y th ι 21 (w * h) x (fun c => if c < k then pu_b1 (pu_left a w h nb nc c) else 0) v.2 ∧ dq_A1 v.2 r.1 20 (w * h) ∧ ∀ c, c < w * h → dw_i v.2 r.1 c = dq_why a w h nb nc c) (fun k2 k v hk hv hk2 => ?_) (fun k2 v hv => ?_) (by omega) ⟨rfl, dq_RQ_ext R0 (fun c _ => if_neg (Nat.not_lt_zero c)), Rr⟩
  all_goals
    obtain ⟨v1, Yw⟩ := v
    obtain ⟨hv1, Rw, Aw, hw⟩ := hv
    dsimp only [] at hv1 Rw Aw hw
    dsimp only []
    subst hv1
    rw [Rw.2.1.2]
  · obtain ⟨Isw, -, ⟨-, r3w, -⟩, ⟨-, ⟨A0, A1⟩, -⟩, -⟩ := dq_I_use Rw.1 I
    rw [pu_n (by omega), hw k hk]
    refine dq_ck Rw.2.1.1 (dq_iff (by rw [pu_le (by omega) (by omega)]; omega) (dq_ck (dq_A1_ok Aw hk (by omega)) ?_))
    have hdug := pu_dugV H hk
    refine dq_jn (fun v => v = pu_b1 (pu_left a w h nb nc k)) (fun v hv => dq_ck ⟨Rw.2.1.1, pu_ok (by omega) hk⟩ (hk2 _ ⟨pu_add k 1, dq_RQ_set Rw (fun c _ => ?_), Aw, fun c hc => ?_⟩)) (fun j2 hj2 => ?_)
    · rw [hv]
      have e0 : vp_nar .boolean (pu_b1 (pu_left a w h nb nc k)) = pu_b1 (pu_left a w h nb nc k) := by
        cases pu_left a w h nb nc k
        · exact pu_nar0
        · exact pu_nar1
      rw [e0]
      by_cases e1 : c = k
      · rw [if_pos e1, if_pos (by omega), e1]
      · rw [if_neg e1]
        by_cases e2 : c < k
        · rw [if_pos e2, if_pos (by omega)]
        · rw [if_neg e2, if_neg (by omega)]
    · rw [dq_i_pi_n (fun e => absurd e hrx)]
      exact hw c hc
    · refine dq_jn (fun _ => pu_left a w h nb nc k = false) (fun _ hf => hj2 _ (by rw [hf]; rfl)) (fun j3 hj3 => dq_if (fun z => hj3 () ?_) (fun z => dq_ck Isw (dq_nn r3w (dq_ck (dq_A1_ok A0 hk (by omega)) ?_))))
      · unfold pu_left
        cases hc : pu_cand a w h nb nc k
        · rfl
        · exact absurd ((dq_why0 H).mpr hc) z
      · rw [A1 k hk, hdug]
        refine dq_if (fun z2 => hj3 () ?_) (fun z2 => hj2 _ ?_)
        · unfold pu_left
          cases hd : pu_dug a k
          · rw [hd] at z2; exact absurd rfl z2
          · rw [Bool.not_true, Bool.and_false]
        · have z := (dq_why0 H).mp (Classical.not_not.mp z)
          have z2 := pu_b1_0.mp (Classical.not_not.mp z2)
          unfold pu_left
          rw [z, z2]
          rfl
  · exact dq_ck Rw.2.1.1 (dq_ift ((pu_le (by omega) (by omega)).mpr (Nat.le_refl _)) (dq_ck ⟨by omega, by omega⟩ (hQ _ (dq_RQ_ext Rw (fun c hc => (if_pos hc).symm)))))
end DQS
