/-! parts of what is left: the law's island -/
section DQZ
variable {a : Nat → Int32} {w h nb nc s c n : Nat} {g : Nat → Bool} {Y Y0 Y' : dw_S} {th : Nat} {ι : Nat → Nat}
theorem dq_fv_lt (hw : w ≤ 20) (hh : h ≤ 20) (hs : s < w * h) : dq_fv g w h s c ≤ 9999 ∧ (dq_fv g w h s c < 9999 ↔ 0 ≤ (pu_far g w h s).1 c) := by
  obtain ⟨-, d2, -⟩ := dq_far_D (g := g) hw hh hs
  unfold dq_fv
  by_cases e : 0 ≤ (pu_far g w h s).1 c
  · rw [if_pos e]
    have := (d2 c e).2
    exact ⟨by omega, fun _ => e, fun _ => by omega⟩
  · rw [if_neg e]
    exact ⟨Nat.le_refl _, fun z => by omega, fun z => absurd z e⟩
theorem dq_clo0 : pu_clo g w h (fun _ => -1) := fun c c' b hc => absurd (show (0 : Int) ≤ -1 from hc) (by decide)
theorem dq_far_rch (hw : w ≤ 20) (hh : h ≤ 20) (hs : s < w * h) {x : Nat} : 0 ≤ (pu_far g w h s).1 x ↔ pu_rch g w h s x := by
  have := (pu_bf_seen (g := g) (d0 := fun _ => -1) hw hh hs (by decide) (fun _ _ => ⟨by decide, by decide⟩) dq_clo0 (B := pu_far g w h s) rfl).1 x
  rw [this]
  exact ⟨fun z => z.elim (fun y => absurd y (by decide)) id, Or.inr⟩
theorem dq_parts_clo (hw : w ≤ 20) (hh : h ≤ 20) : ∀ m, m ≤ w * h → pu_clo g w h (pu_parts g w h m).1
  | 0, _ => by rw [pu_parts_0]; exact dq_clo0
  | m + 1, hm => by
    have ih := dq_parts_clo hw hh m (by omega)
    rw [pu_parts_S]
    unfold pu_pstep
    by_cases e : g m = true ∧ (pu_parts g w h m).1 m < 0
    · rw [if_pos e]
      generalize hB : pu_bf g w h (pu_st0 (pu_parts g w h m).1 m) 400 = B
      exact (pu_bf_seen hw hh (by omega) e.2 (pu_parts_rng hw hh m (by omega)).1 ih hB.symm).2
    · rw [if_neg e]; exact ih
theorem dq_parts_step (hw : w ≤ 20) (hh : h ≤ 20) {m : Nat} (hm : m < w * h) (e : g m = true ∧ (pu_parts g w h m).1 m < 0) : (pu_parts g w h (m + 1)).2 = (pu_parts g w h m).2 + 1 ∧ ∀ x, 0 ≤ (pu_parts g w h (m + 1)).1 x ↔ 0 ≤ (pu_parts g w h m).1 x ∨ 0 ≤ (pu_far g w h m).1 x := by
  rw [pu_parts_S]
  unfold pu_pstep
  rw [if_pos e]
  refine ⟨rfl, fun x => ?_⟩
  rw [dq_far_rch hw hh hm]
  generalize hB : pu_bf g w h (pu_st0 (pu_parts g w h m).1 m) 400 = B
  exact (pu_bf_seen hw hh hm e.2 (pu_parts_rng hw hh m (by omega)).1 (dq_parts_clo hw hh m (by omega)) hB.symm).1 x
theorem dq_parts_skip {m : Nat} (e : ¬ (g m = true ∧ (pu_parts g w h m).1 m < 0)) : pu_parts g w h (m + 1) = pu_parts g w h m := by
  rw [pu_parts_S]
  unfold pu_pstep
  rw [if_neg e]
theorem dq_b1or {x y : Bool} : vp_nar .boolean (pu_b1 x ||| pu_b1 y) = pu_b1 (x || y) := by
  cases x <;> cases y <;> decide
theorem dq_b1of {p : Prop} {d : Decidable p} : (if p then (1 : Int32) else 0) = pu_b1 (decide p) := by
  by_cases e : p
  · rw [if_pos e, decide_eq_true e]; rfl
  · rw [if_neg e, decide_eq_false e]; rfl
set_option maxHeartbeats 1000000 in
theorem dq_partsM (H : pu_WF a w h nb nc) (h30 : w * h ≤ 30) (I : dq_I Y th ι a w h nb nc) {r : Nat} (A : dq_A1 Y r 21 (w * h)) (hA : ∀ c, c < w * h → dw_i Y r c = pu_b1 (g c)) (hgl : ∀ d, g d = true → pu_land a d = true) (hn : 700000 < n) {Q : Int32 × dw_S → Prop} (hQ : ∀ r, r.1 = Int32.ofNat (pu_parts g w h (w * h)).2 → dq_use th ι Y r.2 → Q r) : dw_P_X13_parts n th r Y Q := by
  have hm := H.1
  have hw := hm.2.2.2.1
  have hh := hm.2.2.2.2.2
  obtain ⟨Is, -, -, -, -, -, ⟨N1, -⟩⟩ := id I
  have h4 : 442 ≤ dw_n Y := by have := Is.1; have := Is.2.1; omega
  have hN5 := N1.1.1
  have hr5 : r ≠ ι 5 := dq_is_ne A.1 N1.1 (by decide)
  have hrn := A.1.1
  dsimp only [dw_P_X13_parts, pw_lt]
  rw [A.2, pu_n (by omega)]
  refine dq_ck A.1 (dq_ck ⟨⟨pu_nn (by omega), by omega⟩, by omega, by omega⟩ (fun x hx => ?_))
  dsimp only []
  have R0 : dq_RQ Y th ι 21 (w * h) x (fun _ => 0) (dw_nw Y x 21 (w * h) (fun _ => 0) fun _ => none) := dq_RQ_new dq_fr_refl h4 hx
  generalize dw_nw Y x 21 (w * h) (fun _ => 0) (fun _ => none) = Y2 at R0
  have hrA : ∀ Yw, dq_use th ι Y Yw → dq_A1 Yw r 21 (w * h) ∧ ∀ c, c < w * h → dw_i Yw r c = pu_b1 (g c) := fun Yw F => ⟨dq_A1_fr F A, fun c hc => (F.2.2.2.1 r c hrn hr5).trans (hA c hc)⟩
  refine dq_for (w * h) (fun k v => v.1 = Int32.ofNat (pu_parts g w h k).2 ∧ v.2.1 = Int32.ofNat k ∧ dq_RQ Y th ι 21 (w * h) x (fun c => pu_b1 (decide (0 ≤ (pu_parts g w h k).1 c))) v.2.2.1 ∧ v.2.2.2.1 ≤ 1 + k ∧ v.2.2.2.2 ≤ w * h + 30 * k) (fun k2 k v hk hv hk2 => ?_) (fun k2 v hv => ?_) (by omega) ⟨by rw [pu_parts_0]; rfl, rfl, dq_RQ_ext R0 (fun c _ => by rw [pu_parts_0]; rfl), by dsimp only []; omega, by dsimp only []; omega⟩
  all_goals
    obtain ⟨v1, v2, Yw, cc, ss⟩ := v
    obtain ⟨hv1, hv2, Rw, hc1, hs1⟩ := hv
    dsimp only [] at hv1 hv2 Rw hc1 hs1
    dsimp only []
    subst hv1 hv2
    obtain ⟨Aw, hAw⟩ := hrA Yw Rw.1
    rw [Aw.2]
  · have hrng := (pu_parts_rng (g := g) hw hh k (by omega)).1 k hk
    have hcnt := (pu_parts_rng (g := g) hw hh k (by omega)).2
    rw [pu_n (by omega), hAw k hk, Rw.2.2.2 k hk]
    refine dq_ck Aw.1 (dq_iff (by rw [pu_le (by omega) (by omega)]; omega) (dq_ck ⟨Aw.1, pu_ok (by omega) hk⟩ (dq_jn (fun v => v.1 = Int32.ofNat (pu_parts g w h (k + 1)).2 ∧ v.2.1 = Int32.ofNat k ∧ dq_RQ Y th ι 21 (w * h) x (fun c => pu_b1 (decide (0 ≤ (pu_parts g w h (k + 1)).1 c))) v.2.2.1 ∧ v.2.2.2.1 ≤ 1 + (k + 1) ∧ v.2.2.2.2 ≤ w * h + 30 * (k + 1)) (fun v hv => hk2 _ ⟨hv.1, ?_, hv.2.2⟩) (fun j hj => ?_))))
    · dsimp only []
      rw [hv.2.1]
      exact pu_add k 1
    have skip : ¬ (g k = true ∧ (pu_parts g w h k).1 k < 0) → j (Int32.ofNat (pu_parts g w h k).2, Int32.ofNat k, Yw, cc, ss) := fun e => hj _ ⟨by rw [dq_parts_skip e], rfl, by rw [dq_parts_skip e]; exact Rw, by dsimp only []; omega, by dsimp only []; omega⟩
    refine dq_if (fun z => skip (fun e => by rw [e.1] at z; exact absurd z (by decide))) (fun z => dq_ck (dq_A1_ok Rw.2.1 hk (by omega)) (dq_if (fun z2 => ?_) (fun z2 => skip (fun e => z2 (pu_b1_0.mpr (decide_eq_false (by omega)))))))
    have hg : g k = true := pu_bF (fun e => z (pu_b1_0.mpr e))
    have hneg : (pu_parts g w h k).1 k < 0 := by
      have := of_decide_eq_false (pu_b1_0.mp z2)
      omega
    obtain ⟨p1, p2⟩ := dq_parts_step hw hh hk ⟨hg, hneg⟩
    have Iw := dq_I_use Rw.1 I
    refine dq_ck ⟨Iw.1, by omega, by omega⟩ (dq_far H h30 Iw hk (Or.inr ⟨r, rfl, Aw, hAw, hgl⟩) hn (fun r2 R2 => ?_))
    have Rx := dq_RQ_use hN5 Rw R2.1
    have hrx : x ≠ r2.1 := by have := R2.2.2.1; have := Rw.2.1.1.1; omega
    have hfv : ∀ c, dq_fv g w h k c ≤ 9999 ∧ (dq_fv g w h k c < 9999 ↔ 0 ≤ (pu_far g w h k).1 c) := fun c => dq_fv_lt hw hh hk
    have R2c := R2.2.2.2
    have R2a := R2.2.1
    clear R2
    generalize dq_fv g w h k = fv at hfv R2c
    generalize (pu_far g w h k).1 = D at hfv p2
    refine dq_for (w * h) (fun i v => v.1 = Int32.ofNat k ∧ v.2.1 = Int32.ofNat i ∧ dq_RQ Y th ι 21 (w * h) x (fun c => pu_b1 (decide (0 ≤ (pu_parts g w h k).1 c) || (decide (c < i) && decide (0 ≤ D c)))) v.2.2 ∧ dq_A1 v.2.2 r2.1 20 (w * h) ∧ ∀ c, c < w * h → dw_i v.2.2 r2.1 c = Int32.ofNat (fv c)) (fun k3 i v hi hv hk3 => ?_) (fun k3 v hv => ?_) (by omega) ⟨rfl, rfl, dq_RQ_ext Rx (fun c _ => by rw [decide_eq_false (Nat.not_lt_zero c), Bool.false_and, Bool.or_false]), R2a, R2c⟩
    all_goals
      obtain ⟨v1, v2, Yt⟩ := v
      obtain ⟨hv1, hv2, Rt, At, ht⟩ := hv
      dsimp only [] at hv1 hv2 Rt At ht
      dsimp only []
      subst hv1 hv2
      rw [At.2]
    · rw [pu_n (by omega), ht i hi, Rt.2.2.2 i hi]
      obtain ⟨f9, f0⟩ := hfv i
      refine dq_ck At.1 (dq_iff (by rw [pu_le (by omega) (by omega)]; omega) (dq_ck (dq_A1_ok Rt.2.1 hi (by omega)) (dq_ck ⟨At.1, pu_ok (by omega) hi⟩ (dq_jn (fun v => v = pu_b1 (decide (0 ≤ D i))) (fun v hv => dq_ck (dq_A1_ok Rt.2.1 hi (by omega)) (hk3 _ ⟨rfl, pu_add i 1, dq_RQ_set Rt (fun c _ => ?_), At, fun c hc => ?_⟩)) (fun j2 hj2 => dq_if (fun y => hj2 _ ?_) (fun y => hj2 _ ?_))))))
      · rw [hv, dq_b1or]
        by_cases e : c = i
        · rw [if_pos e, e, decide_eq_true (show i < i + 1 by omega), decide_eq_false (Nat.lt_irrefl i), Bool.true_and, Bool.false_and, Bool.or_false]
        · rw [if_neg e]
          by_cases e2 : c < i
          · rw [decide_eq_true e2, decide_eq_true (show c < i + 1 by omega)]
          · rw [decide_eq_false e2, decide_eq_false (show ¬ c < i + 1 by omega)]
      · rw [dq_i_pi_n (fun e => absurd e.symm hrx)]
        exact ht c hc
      · have y := (pu_le (a := 9999) (by omega) (by omega)).mp y
        rw [decide_eq_false (fun e => by have := f0.mpr e; omega)]
        rfl
      · rw [decide_eq_true (f0.mp (Nat.lt_of_not_le (fun e => y ((pu_le (a := 9999) (by omega) (by omega)).mpr e))))]
        rfl
    · refine dq_ck At.1 (dq_ift ((pu_le (by omega) (by omega)).mpr (Nat.le_refl _)) (hj _ ⟨?_, rfl, dq_RQ_ext Rt (fun c hc => ?_), by dsimp only []; omega, by dsimp only []; omega⟩))
      · rw [p1]
        exact pu_add _ 1
      · rw [decide_eq_true hc, Bool.true_and]
        congr 1
        rw [← Bool.decide_or]
        exact decide_eq_decide.mpr (p2 c)
  · exact dq_ck Aw.1 (dq_ift ((pu_le (by omega) (by omega)).mpr (Nat.le_refl _)) (dq_ck ⟨by omega, by omega⟩ (hQ _ rfl Rw.1)))
end DQZ
