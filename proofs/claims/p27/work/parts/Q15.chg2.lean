/-! hide, and the law's own writes: move, use, turn -/
theorem dq_lt {α : Type} {e : α} {k : α → Prop} (h : k e) : pw_lt e k := h
section DQH3
variable {a a' : Nat → Int32} {w h nb nc n : Nat} {Y Y0 Y' Y'' : dw_S} {th : Nat} {ι : Nat → Nat}
/-- another row that says the same but for what an island's own fields say -/
theorem dq_I_f {Si : Nat → Nat → Prop} (H : pu_WF a w h nb nc) (F : dq_fr Si (fun _ _ => False) Y Y') (I : dq_I Y th ι a w h nb nc) (hA : pu_ag pu_X4 a a') (hSi : ∀ k j, Si k j → k = th) (hf : dq_If Y' th a' w h) : dq_I Y' th ι a' w h nb nc := by
  obtain ⟨l1, l2, l3, l4⟩ := dq_lens H
  obtain ⟨Is, -, -, ⟨⟨m1, m2⟩, ⟨m3, m4⟩, -⟩, ⟨b1, b2⟩, ⟨c1, c2⟩, n1, n2⟩ := id I
  have n4 : ∀ j, 8 ≤ j → a' j = a j := fun j hj => hA j (fun z => by have := z.2; omega)
  have e : ∀ k kd, dw_is Y k kd → kd ≠ 13 → ∀ j, dw_i Y' k j = dw_i Y k j := fun k kd hk h13 j => F.2.2.2.1 k j hk.1 (fun z => dq_is_ne hk Is h13 (hSi k j z))
  refine dq_I_chg H F I (pu_ag_Y (pu_ag_X4 hA)) (fun k j z => Or.inl (hSi k j z)) (fun k j z => z.elim) hf (fun c hc => ?_) (fun k hk => ?_) (fun q hq => ?_)
  · rw [e _ 21 m3.1 (by decide), n4 _ (by omega)]; exact m4 c hc
  · rw [e _ 20 (b2 k hk).2.1.1 (by decide), n4 _ (by omega)]; exact (b2 k hk).2.2 4 (by omega)
  · have : 8 ≤ pu_cl q := by unfold pu_cl; omega
    rw [e _ 12 (c2 q hq).1.2.1 (by decide), n4 _ this]; exact (c2 q hq).1.2.2.1
/-- the place-th of the cells that p holds of, looked for from behind -/
theorem dq_g_S {p : Nat → Bool} {m i : Nat} : pu_g p (m + 1) i = if p m = true ∧ pu_sum p m = i then m else pu_g p m i := pu_g_S
theorem dq_hides (H : pu_WF a w h nb nc) (S : dq_sm a w h nc) (I : dq_I Y th ι a w h nb nc) (hn : 700000 < n) {i : Nat} (hi : i < 10000) {Q : Int32 × dw_S → Prop} (hQ : ∀ Y', dq_I Y' th ι (pu_aHide a w h nb nc i) w h nb nc → dq_stpI th ι nb nc Y Y' → Q (Int32.ofNat (pu_nleft a w h nb nc), Y')) : dw_P_X13_hides n th (Int32.ofNat i) Y Q := by
  obtain ⟨l1, l2, l3, l4⟩ := dq_lens H
  obtain ⟨Is, -⟩ := id I
  unfold dw_P_X13_hides
  refine dq_ck Is (dq_left H S I (by omega) (fun r R => dq_many (p := pu_left a w h nb nc) R.2.1 R.2.2.2 l3 (by omega) ?_))
  have hns := pu_sum_le (p := pu_left a w h nb nc) (w * h)
  generalize hnl : pu_sum (pu_left a w h nb nc) (w * h) = N at hns ⊢
  have hnL : pu_nleft a w h nb nc = N := hnl
  rw [hnL] at hQ
  have haH : pu_aHide a w h nb nc i = if N = 0 then upd (upd a 6 0) 7 0 else upd (upd a 6 1) 7 (Int32.ofNat (pu_g (pu_left a w h nb nc) (w * h) (i % N))) := by
    unfold pu_aHide
    rw [hnL]
  rw [haH] at hQ
  clear haH hnL
  refine dq_lt ?_
  have Ir := dq_I_use R.1 I
  have hst : dq_stpI th ι nb nc Y r.2 := dq_use_stp R.1
  obtain ⟨Isr, ⟨f0, f1, f7, f8, f9, f10⟩, -⟩ := id Ir
  have hm0 : Int32.ofNat (N) = 0 ↔ N = 0 := pu_eq (b := 0) (by omega) (by omega)
  have hr13 : r.1 ≠ th := dq_is_ne R.2.1.1 Isr (by decide)
  refine dq_jn (fun v => v = if N = 0 then 0 else 1) (fun v hv => ?_) (fun j hj => dq_if (fun z => hj _ ?_) (fun z => hj _ ?_))
  rotate_left
  · rw [if_neg (fun e => z (hm0.mpr e))]
  · rw [if_pos (hm0.mp (Classical.not_not.mp z))]
  refine dq_ck Isr (dq_lt (dq_jn (fun u => u = Int32.ofNat (if N = 0 then 0 else i % N)) (fun u hu => ?_) (fun j hj => dq_if (fun z => dq_ck z (hj _ ?_)) (fun z => hj _ ?_))))
  rotate_left
  · rw [if_neg (fun e => z (hm0.mpr e)), pu_rem (by omega) (by omega)]
  · rw [if_pos (hm0.mp (Classical.not_not.mp z))]; rfl
  have F1 : dq_fr (fun k _ => k = th) (fun _ _ => False) r.2 (dw_pi r.2 th 9 v) := dq_fr_pi dq_fr_refl (fun _ => rfl)
  have A1 : dq_A1 (dw_pi r.2 th 9 v) r.1 21 (w * h) := R.2.1
  refine dq_lt (dq_ck A1.1 (dq_lt (dq_lt ?_)))
  rw [A1.2]
  have hz0 : Int32.ofNat (w * h) - (1 : Int32) = Int32.ofInt (((w * h : Nat) : Int) - 0 - 1) := by
    have e : (1 : Int32) = Int32.ofNat 1 := rfl
    rw [e, dq_subI]
    exact congrArg Int32.ofInt (by omega)
  have hu30 : (if N = 0 then 0 else i % N) < 100000 := by
    split
    · omega
    · exact Nat.lt_of_le_of_lt (Nat.mod_le _ _) (by omega)
  generalize hplace : (if N = 0 then 0 else i % N) = place at *
  refine dq_for (w * h) (fun k x => x.1 = Int32.ofInt (((w * h : Nat) : Int) - (k : Int) - 1) ∧ x.2.1 = Int32.ofNat (pu_sum (pu_left a w h nb nc) (w * h - k)) ∧ dq_fr (fun k _ => k = th) (fun _ _ => False) r.2 x.2.2 ∧ (∀ j, j ≠ 10 → dw_i x.2.2 th j = if j = 9 then v else dw_i r.2 th j) ∧ ((∃ c, w * h - k ≤ c ∧ c < w * h ∧ pu_left a w h nb nc c = true ∧ pu_sum (pu_left a w h nb nc) c = place) → dw_i x.2.2 th 10 = Int32.ofNat (pu_g (pu_left a w h nb nc) (w * h) place))) (fun k2 k x hk hx hk2 => ?_) (fun k2 x hx => ?_) (by omega) ⟨hz0, congrArg Int32.ofNat (by rw [Nat.sub_zero]; exact hnl.symm), F1, fun j hj => ?_, fun ⟨c, y1, y2, _⟩ => (by omega)⟩
  rotate_left
  · obtain ⟨x1, x2, Yv⟩ := x
    obtain ⟨hx1, hx2, Fv, hv9, hv10⟩ := hx
    dsimp only [] at hx1 hx2 Fv hv9 hv10
    dsimp only []
    subst hx1
    rw [show Int32.ofInt (((w * h : Nat) : Int) - ((w * h : Nat) : Int) - 1) = (-1 : Int32) by rw [show ((w * h : Nat) : Int) - ((w * h : Nat) : Int) - 1 = -1 by omega]; rfl]
    have hle : N ≠ 0 → place < N := fun z => by
      rw [← hplace, if_neg z]
      exact Nat.mod_lt _ (by omega)
    generalize hah : (if N = 0 then upd (upd a 6 0) 7 0 else upd (upd a 6 1) 7 (Int32.ofNat (pu_g (pu_left a w h nb nc) (w * h) (i % N)))) = ah at hQ
    have ha6 : ah 6 = v ∧ (∀ j, j ≠ 6 → j ≠ 7 → ah j = a j) ∧ (N ≠ 0 → ah 7 = Int32.ofNat (pu_g (pu_left a w h nb nc) (w * h) place)) := by
      rw [← hah]
      by_cases z : N = 0
      · rw [if_pos z, hv, if_pos z]
        exact ⟨pu_u67_6, fun j h6 h7 => pu_u67_e h6 h7, fun y => absurd z y⟩
      · rw [if_neg z, hv, if_neg z]
        refine ⟨pu_u67_6, fun j h6 h7 => pu_u67_e h6 h7, fun _ => ?_⟩
        rw [pu_u67_7, ← hplace, if_neg z]
    refine dq_ift (by decide) (hQ _ (dq_I_f H Fv Ir (fun j hj => ha6.2.1 j (fun e => hj (by rw [e]; exact ⟨by decide, by decide⟩)) (fun e => hj (by rw [e]; exact ⟨by decide, by decide⟩))) (fun k j z => z) ⟨?_, ?_, ?_, ?_, ?_, fun z6 => ?_⟩) (dq_fr_tr hst (dq_fr_mono Fv (fun k j _ z => Or.inl z) (fun k j _ z => z.elim))))
    · rw [hv9 0 (by decide)]; exact f0
    · rw [hv9 1 (by decide)]; exact f1
    · rw [hv9 7 (by decide), ha6.2.1 4 (by decide) (by decide)]; exact f7
    · rw [hv9 8 (by decide), ha6.2.1 5 (by decide) (by decide)]; exact f8
    · rw [hv9 9 (by decide), ha6.1]; exact if_pos rfl
    · have hnz : N ≠ 0 := fun z => by
        rw [ha6.1, hv, if_pos z] at z6
        exact absurd z6 (by decide)
      rw [ha6.2.2 hnz]
      obtain ⟨y1, y2, y3⟩ := pu_g_in (p := pu_left a w h nb nc) (i := place) (w * h) (by rw [hnl]; exact hle hnz)
      exact hv10 ⟨_, by omega, y1, y2, y3⟩
  · dsimp only []
    by_cases e : j = 9
    · rw [e, dq_i_pi_s]; exact (if_pos rfl).symm
    · rw [dq_i_pi_n (fun _ => e), if_neg e]
  obtain ⟨x1, x2, Yv⟩ := x
  obtain ⟨hx1, hx2, Fv, hv9, hv10⟩ := hx
  dsimp only [] at hx1 hx2 Fv hv9 hv10
  dsimp only []
  subst hx1 hx2
  obtain ⟨q, hq⟩ : ∃ q, w * h = q + 1 + k := ⟨w * h - k - 1, by omega⟩
  have e1 : Int32.ofInt (((w * h : Nat) : Int) - (k : Int) - 1) = Int32.ofNat q := dq_oI (by omega)
  have e2 : w * h - k = q + 1 := by omega
  have e3 : w * h - (k + 1) = q := by omega
  rw [e2] at hv10
  rw [e1, e2, pu_n (by omega)]
  have Av := dq_A1_fr Fv R.2.1
  have hrv : dw_i Yv r.1 q = pu_b1 (pu_left a w h nb nc q) := (Fv.2.2.2.1 _ q R.2.1.1.1 hr13).trans (R.2.2.2 q (by omega))
  rw [hrv]
  have hsq := pu_sum_le (p := pu_left a w h nb nc) q
  have hv10' : ∀ x : Int32, dw_i (dw_pi Yv th 10 x) th 10 = x := fun x => dq_i_pi_s
  refine dq_iff (pu_nn (by omega)) (dq_ck (dq_A1_ok Av (by omega) (by omega)) ?_)
  refine dq_jn (fun x => x.1 = Int32.ofNat (pu_sum (pu_left a w h nb nc) q) ∧ dq_fr (fun k _ => k = th) (fun _ _ => False) r.2 x.2 ∧ (∀ j, j ≠ 10 → dw_i x.2 th j = if j = 9 then v else dw_i r.2 th j) ∧ ((∃ c, q ≤ c ∧ c < w * h ∧ pu_left a w h nb nc c = true ∧ pu_sum (pu_left a w h nb nc) c = place) → dw_i x.2 th 10 = Int32.ofNat (pu_g (pu_left a w h nb nc) (w * h) place))) (fun x hx => dq_lt (hk2 _ ⟨?_, ?_, hx.2.1, hx.2.2.1, ?_⟩)) (fun j hj => dq_if (fun z => ?_) (fun z => hj _ ⟨?_, Fv, hv9, fun ⟨c, y1, y2, y3, y4⟩ => hv10 ⟨c, ?_, y2, y3, y4⟩⟩))
  · dsimp only []
    rw [← e1, dq_dec]
    exact congrArg Int32.ofInt (by omega)
  · dsimp only []
    rw [e3]; exact hx.1
  · dsimp only []
    rw [e3]; exact hx.2.2.2
  · have hl : pu_left a w h nb nc q = true := pu_bF (fun e => z (pu_b1_0.mpr e))
    have es : pu_sum (pu_left a w h nb nc) (q + 1) = pu_sum (pu_left a w h nb nc) q + 1 := by rw [pu_sum_S, if_pos hl]
    have em : Int32.ofNat (pu_sum (pu_left a w h nb nc) (q + 1)) + (-1 : Int32) = Int32.ofNat (pu_sum (pu_left a w h nb nc) q) := by
      rw [es, ← Int32.ofInt_eq_ofNat, dq_dec]
      exact dq_oI (by omega)
    have hg : pu_sum (pu_left a w h nb nc) q = place → pu_g (pu_left a w h nb nc) (w * h) place = q := fun e => by rw [← e]; exact pu_g_of hl (w * h) (by omega)
    refine dq_lt ?_
    rw [em, hu]
    refine dq_if (fun z2 => hj _ ⟨rfl, Fv, hv9, fun ⟨c, y1, y2, y3, y4⟩ => hv10 ⟨c, ?_, y2, y3, y4⟩⟩) (fun z2 => dq_ck (dq_is_fr Fv Isr) (dq_lt (hj _ ⟨rfl, dq_fr_pi Fv (fun _ => rfl), fun j h10 => ?_, fun _ => ?_⟩)))
    · by_cases e : c = q
      · rw [e] at y4
        exact absurd (by rw [y4]) z2
      · omega
    · dsimp only []
      rw [dq_i_pi_n (fun _ => h10)]
      exact hv9 j h10
    · dsimp only []
      rw [hv10', hg ((pu_eq (by omega) (by omega)).mp (Classical.not_not.mp z2))]
  · rw [pu_sum_S, pu_b1_0.mp (Classical.not_not.mp z)]
    rfl
  · by_cases e : c = q
    · rw [e, pu_b1_0.mp (Classical.not_not.mp z)] at y3
      cases y3
    · omega
/-- a move's writes -/
theorem dq_moved (H : pu_WF a w h nb nc) (I : dq_I Y th ι a w h nb nc) {c : Nat} {d : Int} {x : Int32} (hx : x = a 5 + Int32.ofInt d) : dq_I (dw_pi (dw_pi Y th 7 (Int32.ofNat c)) th 8 x) th ι (pu_aMove a c d) w h nb nc ∧ dq_stpI th ι nb nc Y (dw_pi (dw_pi Y th 7 (Int32.ofNat c)) th 8 x) := by
  obtain ⟨Is, ⟨f0, f1, f7, f8, f9, f10⟩, -⟩ := id I
  have hn : ∀ j, j ≠ 4 → j ≠ 5 → pu_aMove a c d j = a j := fun j h4 h5 => by
    unfold pu_aMove
    rw [pu_upd_n h5, pu_upd_n h4]
  have h4 : pu_aMove a c d 4 = Int32.ofNat c := by
    unfold pu_aMove
    rw [pu_upd_n (by decide)]; exact pu_upd_s
  have h5 : pu_aMove a c d 5 = a 5 + Int32.ofInt d := by
    unfold pu_aMove
    exact pu_upd_s
  refine ⟨dq_I_f H (Si := fun k _ => k = th) (dq_fr_pi (dq_fr_pi dq_fr_refl (fun _ => rfl)) (fun _ => rfl)) I (fun j hj => hn j (fun e => hj (by rw [e]; exact ⟨by decide, by decide⟩)) (fun e => hj (by rw [e]; exact ⟨by decide, by decide⟩))) (fun k j z => z) ⟨?_, ?_, ?_, ?_, ?_, fun z => ?_⟩, dq_fr_pi (dq_fr_pi dq_fr_refl (fun _ => Or.inl rfl)) (fun _ => Or.inl rfl)⟩
  · rw [dq_i_pi_n (fun _ => by decide), dq_i_pi_n (fun _ => by decide)]; exact f0
  · rw [dq_i_pi_n (fun _ => by decide), dq_i_pi_n (fun _ => by decide)]; exact f1
  · rw [dq_i_pi_n (fun _ => by decide), dq_i_pi_s, h4]
  · rw [dq_i_pi_s, h5]; exact hx
  · rw [dq_i_pi_n (fun _ => by decide), dq_i_pi_n (fun _ => by decide), hn 6 (by decide) (by decide)]; exact f9
  · rw [dq_i_pi_n (fun _ => by decide), dq_i_pi_n (fun _ => by decide), hn 7 (by decide) (by decide)]
    rw [hn 6 (by decide) (by decide)] at z
    exact f10 z
/-- a clue used or not -/
theorem dq_usedW (H : pu_WF a w h nb nc) (I : dq_I Y th ι a w h nb nc) {q : Nat} (hq : q < nc) {x v : Int32} (hv : v = if x = 0 then 0 else 1) : dq_I (dw_pi Y (ι (20 + q)) 2 v) th ι (pu_aUse a q x) w h nb nc ∧ dq_stpI th ι nb nc Y (dw_pi Y (ι (20 + q)) 2 v) := by
  obtain ⟨l1, l2, l3, l4⟩ := dq_lens H
  obtain ⟨Is, ⟨f0, f1, f7, f8, f9, f10⟩, -, ⟨-, ⟨m3, m4⟩, -⟩, ⟨b1, b2⟩, ⟨c1, c2⟩, n1, n2, n3, n4, n5, n6, n7⟩ := id I
  have hs : pu_aUse a q x (pu_cl q) = v := by
    unfold pu_aUse
    rw [pu_upd_s, hv]
  have hcl : pu_cl q = 856 + 43 * q := rfl
  have hi : ∀ k kd, dw_is Y k kd → kd ≠ 12 → ∀ j, dw_i (dw_pi Y (ι (20 + q)) 2 v) k j = dw_i Y k j := fun k kd hk hd j => dq_i_pi_n (fun e => absurd e (dq_is_ne hk (c2 q hq).1.2.1 hd))
  refine ⟨dq_I_chg H (Si := fun k _ => k = ι (20 + q)) (Sr := fun _ _ => False) (dq_fr_pi dq_fr_refl (fun _ => rfl)) I (pu_ag_Y (pu_use_ag (by omega))) (fun k j z => Or.inr (Or.inr (Or.inr (Or.inr ⟨q, hq, z⟩)))) (fun k j z => z.elim) ⟨?_, ?_, ?_, ?_, ?_, fun z => ?_⟩ (fun c hc => ?_) (fun k hk => ?_) (fun p hp => ?_), dq_fr_pi dq_fr_refl (fun _ => Or.inr (Or.inr (Or.inr (Or.inr ⟨q, hq, rfl⟩))))⟩
  · rw [hi _ 13 Is (by decide)]; exact f0
  · rw [hi _ 13 Is (by decide)]; exact f1
  · rw [hi _ 13 Is (by decide), pu_use_e (by omega)]; exact f7
  · rw [hi _ 13 Is (by decide), pu_use_e (by omega)]; exact f8
  · rw [hi _ 13 Is (by decide), pu_use_e (by omega)]; exact f9
  · rw [hi _ 13 Is (by decide), pu_use_e (by omega)]
    rw [pu_use_e (by omega)] at z
    exact f10 z
  · rw [hi _ 21 m3.1 (by decide), pu_use_e (by omega)]; exact m4 c hc
  · rw [hi _ 20 (b2 k hk).2.1.1 (by decide), pu_use_e (by omega)]; exact (b2 k hk).2.2 4 (by omega)
  · by_cases e : p = q
    · rw [e, dq_i_pi_s, hs]
    · have hcp : pu_cl p = 856 + 43 * p := rfl
      rw [dq_i_pi_n (fun e2 => absurd e2 (n7 q hq p hp e)), pu_use_e (by omega)]
      exact (c2 p hp).1.2.2.1
/-- a bend's turn -/
theorem dq_turned (H : pu_WF a w h nb nc) (I : dq_I Y th ι a w h nb nc) {k : Nat} (hk : k < nb) {x : Int32} : dq_I (dw_pi Y (ι (10 + k)) 4 x) th ι (pu_aTurn a k x) w h nb nc ∧ dq_stpI th ι nb nc Y (dw_pi Y (ι (10 + k)) 4 x) := by
  obtain ⟨l1, l2, l3, l4⟩ := dq_lens H
  obtain ⟨Is, ⟨f0, f1, f7, f8, f9, f10⟩, -, ⟨-, ⟨m3, m4⟩, -⟩, ⟨b1, b2⟩, ⟨c1, c2⟩, n1, n2, n3, n4, n5, n6, n7⟩ := id I
  have hi : ∀ k' kd, dw_is Y k' kd → kd ≠ 20 → ∀ j, dw_i (dw_pi Y (ι (10 + k)) 4 x) k' j = dw_i Y k' j := fun k' kd hk' hd j => dq_i_pi_n (fun e => absurd e (dq_is_ne hk' (b2 k hk).2.1.1 hd))
  refine ⟨dq_I_chg H (Si := fun k' j => k' = ι (10 + k) ∧ j = 4) (Sr := fun _ _ => False) (dq_fr_pi dq_fr_refl (fun _ => ⟨rfl, rfl⟩)) I (pu_turn_ag (by omega)) (fun k' j z => Or.inr (Or.inr (Or.inr (Or.inl ⟨k, hk, z.1, z.2⟩)))) (fun k j z => z.elim) ⟨?_, ?_, ?_, ?_, ?_, fun z => ?_⟩ (fun c hc => ?_) (fun i hi' => ?_) (fun p hp => ?_), dq_fr_pi dq_fr_refl (fun _ => Or.inr (Or.inr (Or.inr (Or.inl ⟨k, hk, rfl⟩))))⟩
  · rw [hi _ 13 Is (by decide)]; exact f0
  · rw [hi _ 13 Is (by decide)]; exact f1
  · rw [hi _ 13 Is (by decide), pu_turn_e (by omega)]; exact f7
  · rw [hi _ 13 Is (by decide), pu_turn_e (by omega)]; exact f8
  · rw [hi _ 13 Is (by decide), pu_turn_e (by omega)]; exact f9
  · rw [hi _ 13 Is (by decide), pu_turn_e (by omega)]
    rw [pu_turn_e (by omega)] at z
    exact f10 z
  · rw [hi _ 21 m3.1 (by decide), pu_turn_e (by omega)]; exact m4 c hc
  · by_cases e : i = k
    · rw [e, dq_i_pi_s]
      unfold pu_aTurn
      exact pu_upd_s.symm
    · rw [dq_i_pi_n (fun e2 => absurd e2 ((n6 k hk).2.2 i hi' e)), pu_turn_e (by omega)]
      exact (b2 i hi').2.2 4 (by omega)
  · have hcp : pu_cl p = 856 + 43 * p := rfl
    rw [hi _ 12 (c2 p hp).1.2.1 (by decide), pu_turn_e (by omega)]
    exact (c2 p hp).1.2.2.1
end DQH3
