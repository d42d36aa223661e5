/-! statements one after another -/
section CRD
variable {σ σ0 : tw_Sg} {B : Nat → Nat} {L p n w h q : Nat} {E : Option (Int32 × Nat)} {A A' : Nat → Int32} {Q Q' : tw_Sg → Prop}
theorem pu_nk_c (k : Nat) : pu_nk B L k (pu_nx B L p) = pu_nk B L (k + 1) p := by
  induction k with
  | zero => rfl
  | succ k ih => exact congrArg (pu_nx B L) ih
theorem pu_nk_lt (hp : p < L) (k : Nat) : p < pu_nk B L (k + 1) p ∧ pu_nk B L (k + 1) p ≤ L := by
  have h0 := (pu_nx_rng (B := B) (Nat.le_of_lt hp))
  rw [← pu_nk_c]
  have h1 := pu_nk_le (B := B) h0.2.1 k
  exact ⟨Nat.lt_of_lt_of_le (h0.2.2.1 hp) h1.1, h1.2⟩
theorem pu_zs_p : ∀ f (X : pu_Xs), X.2.1 ≤ L → X.2.1 ≤ (pu_zs B L q f X).2.1 ∧ (pu_zs B L q f X).2.1 ≤ L
  | 0, X, hX => ⟨Nat.le_refl _, hX⟩
  | f + 1, X, hX => by
    by_cases c : X.1 = none ∧ pu_isW B L X.2.1 8 = true
    · rw [pu_zs_s c]
      have h2 := pu_nk_le (B := B) hX 2
      have := pu_zs_p f (pu_z1s B L q none (pu_nx B L X.2.1) X.2.2) h2.2
      exact ⟨Nat.le_trans h2.1 this.1, this.2⟩
    · rw [pu_zs_e c]
      exact ⟨Nat.le_refl _, hX⟩
theorem pu_gs_p : ∀ f (X : pu_Xs), X.2.1 ≤ L → X.2.1 ≤ (pu_gs B L q f X).2.1 ∧ (pu_gs B L q f X).2.1 ≤ L
  | 0, X, hX => ⟨Nat.le_refl _, hX⟩
  | f + 1, X, hX => by
    by_cases c : X.1 = none ∧ pu_la B L X.2.1 = true
    · rw [pu_gs_s c]
      have h2 := pu_pG_ge (B := B) (pu_la_lt c.2)
      have := pu_gs_p f (pu_eG B L X.2.2 q none X.2.1, pu_pG B L X.2.1, pu_qG B L X.2.2 q X.2.1) h2.2
      exact ⟨Nat.le_trans (Nat.le_of_lt h2.1) this.1, this.2⟩
    · rw [pu_gs_e c]
      exact ⟨Nat.le_refl _, hX⟩
theorem pu_zs_AQ (hB : ∀ i, i < L → B i < 256) : ∀ f (X : pu_Xs), (X.1 = none → pu_AQ X.2.2 w h q) → (pu_zs B L q f X).1 = none → pu_AQ (pu_zs B L q f X).2.2 w h q
  | 0, X, hX => hX
  | f + 1, X, hX => by
    by_cases c : X.1 = none ∧ pu_isW B L X.2.1 8 = true
    · rw [pu_zs_s c]
      exact pu_zs_AQ hB f _ (fun z => (pu_Z_AQ hB (hX c.1) z).2.1)
    · rw [pu_zs_e c]
      exact hX
theorem pu_gs_AQ (hB : ∀ i, i < L → B i < 256) : ∀ f (X : pu_Xs), (X.1 = none → pu_AQ X.2.2 w h q) → (pu_gs B L q f X).1 = none → pu_AQ (pu_gs B L q f X).2.2 w h q
  | 0, X, hX => hX
  | f + 1, X, hX => by
    by_cases c : X.1 = none ∧ pu_la B L X.2.1 = true
    · rw [pu_gs_s c]
      exact pu_gs_AQ hB f _ (fun z => (pu_G_AQ hB (hX c.1) z).2.2.2.2.2.2.2.2)
    · rw [pu_gs_e c]
      exact hX
theorem pu_x3_AQ (hB : ∀ i, i < L → B i < 256) (W : pu_AW A w h) (h0 : (pu_x3 B L A p).1 = none) : pu_AQ (pu_x3 B L A p).2.2 w h (pu_v A 3) := by
  refine pu_gs_AQ hB _ _ (pu_zs_AQ hB _ _ (fun z => ?_)) h0
  have y := (pu_fs0.mp (pu_fs0.mp (pu_fs0.mp (pu_fs0.mp z).1).1).1).2
  have h4 : pu_v A 3 ≤ 4 := W.2.2.1.2.1
  exact (pu_Z_AQ hB (pu_AW_AQ W (by omega)) z).2.1
noncomputable def pu_stm (B : Nat → Nat) (L w h p : Nat) (A : Nat → Int32) : pu_Xs :=
  if pu_isW B L p 0 = true then (pu_eW B L w h A (pu_nx B L p), pu_nk B L 5 (pu_nx B L p), pu_qW B L w h A (pu_nx B L p))
  else if pu_isW B L p 1 = true then (pu_eB B L w h A p, pu_nk B L 8 p, pu_qB B L A p)
  else if pu_isW B L p 2 = true then (pu_eM B L w h A (pu_nx B L p), pu_nk B L 4 (pu_nx B L p), pu_qM B L w A (pu_nx B L p))
  else if pu_isW B L p 3 = true then (pu_eT B L w h A p, pu_nk B L 4 p, pu_qT B L w A p)
  else if pu_isW B L p 4 = true then pu_xC B L A p
  else (some (-2, p), p, A)
theorem pu_stm_p (hp : p < L) (h0 : (pu_stm B L w h p A).1 = none) : p < (pu_stm B L w h p A).2.1 ∧ (pu_stm B L w h p A).2.1 ≤ L := by
  unfold pu_stm at h0 ⊢
  split
  · rw [pu_nk_c]; exact pu_nk_lt hp 5
  rename_i c0
  rw [if_neg c0] at h0
  split
  · exact pu_nk_lt hp 7
  rename_i c1
  rw [if_neg c1] at h0
  split
  · rw [pu_nk_c]; exact pu_nk_lt hp 4
  rename_i c2
  rw [if_neg c2] at h0
  split
  · exact pu_nk_lt hp 3
  rename_i c3
  rw [if_neg c3] at h0
  split
  · have h2 := pu_nk_lt (B := B) hp 1
    have h3 := pu_zs_p (B := B) (q := pu_v A 3) (L + 1) (pu_x1 B L A p) h2.2
    have h4 := pu_gs_p (B := B) (q := pu_v A 3) (L + 1) _ h3.2
    have h5 := pu_nx_ge (B := B) h4.2
    have h6 : p < (pu_x1 B L A p).2.1 := h2.1
    exact ⟨Nat.lt_of_lt_of_le h6 (Nat.le_trans h3.1 (Nat.le_trans h4.1 h5.1)), h5.2⟩
  · rename_i c4
    rw [if_neg c4] at h0
    cases h0
theorem pu_stm_AW (hB : ∀ i, i < L → B i < 256) (W : pu_AW A w h) (h0 : (pu_stm B L w h p A).1 = none) : pu_AW (pu_stm B L w h p A).2.2 w h := by
  obtain ⟨w1, w2, h1, h2⟩ := pu_AW_b W
  unfold pu_stm at h0 ⊢
  split
  · rename_i c0
    rw [if_pos c0] at h0
    exact pu_aW_AW W (pu_fs0.mp h0).2
  rename_i c0
  rw [if_neg c0] at h0
  split
  · rename_i c1
    rw [if_pos c1] at h0
    obtain ⟨g1, g2, -, g4⟩ := pu_eB0 w1 h1 h0
    exact (pu_bend_AW W (by have : pu_v A 2 ≤ 8 := W.2.1.2.1; omega) g2 g4).1
  rename_i c1
  rw [if_neg c1] at h0
  split
  · rename_i c2
    rw [if_pos c2] at h0
    obtain ⟨z0, -, -, z3, -⟩ := pu_eL0 w1 h1 (pu_fs0.mp h0).1
    obtain ⟨z5, z6⟩ := pu_fs0.mp z0
    exact (pu_mark_AW W (pu_isM_lt hB (pu_fs0.mp z5).2).1 z6 z3).2
  rename_i c2
  rw [if_neg c2] at h0
  split
  · rename_i c3
    rw [if_pos c3] at h0
    obtain ⟨-, -, -, z3, -⟩ := pu_eL0 w1 h1 (pu_fs0.mp h0).1
    exact (pu_team_AW W z3).2
  rename_i c3
  rw [if_neg c3] at h0
  split
  · rename_i c4
    rw [if_pos c4] at h0
    exact (pu_C_AW (pu_x3_AQ hB W (pu_fs0.mp h0).1)).1
  · rename_i c4
    rw [if_neg c4] at h0
    cases h0
noncomputable def pu_run (B : Nat → Nat) (L w h : Nat) : Nat → pu_Xs → pu_Xs
  | 0, X => X
  | f + 1, X => if (X.1.isNone && decide (X.2.1 < L)) = true then pu_run B L w h f (pu_stm B L w h X.2.1 X.2.2) else X
theorem pu_run_e {f : Nat} {X : pu_Xs} (hX : ¬ (X.1 = none ∧ X.2.1 < L)) : pu_run B L w h f X = X := by
  cases f with
  | zero => rfl
  | succ f =>
    refine if_neg (fun z => hX ?_)
    rw [Bool.and_eq_true, Option.isNone_iff_eq_none, decide_eq_true_iff] at z
    exact z
theorem pu_run_s {f : Nat} {X : pu_Xs} (hX : X.1 = none ∧ X.2.1 < L) : pu_run B L w h (f + 1) X = pu_run B L w h f (pu_stm B L w h X.2.1 X.2.2) := by
  refine if_pos ?_
  rw [Bool.and_eq_true, Option.isNone_iff_eq_none, decide_eq_true_iff]
  exact hX
theorem pu_tk00 (hp : p ≤ L) : pu_tk B L p = 0 ↔ ¬ p < L := by
  unfold pu_tk
  by_cases c : p < L
  · rw [if_pos c]
    refine ⟨fun z => ?_, fun z => absurd c z⟩
    rcases pu_kdb3 (b := B p) with y | y | y <;> omega
  · rw [if_neg c]; exact ⟨fun _ => c, fun _ => rfl⟩
def pu_eI (E : Option (Int32 × Nat)) : Int32 := match E with | none => 0 | some e => e.1
def pu_eJ (E : Option (Int32 × Nat)) : Int32 := match E with | none => -1 | some e => Int32.ofNat e.2
def pu_fl (A : Nat → Int32) (w h : Nat) : Nat := pu_g (pu_land A) (w * h) 0
def pu_aE (A : Nat → Int32) (w h : Nat) : Nat → Int32 := if A 4 = -1 then upd A 4 (Int32.ofNat (pu_fl A w h)) else A
theorem pu_fl_lt (W : pu_AW A w h) : pu_fl A w h < w * h ∧ pu_land A (pu_fl A w h) = true ∧ pu_sum (pu_land A) (pu_fl A w h) = 0 := by
  refine pu_g_in (w * h) ?_
  obtain ⟨s1, s2⟩ := pu_sum0 (g := pu_land A) (w * h)
  rcases Nat.eq_zero_or_pos (pu_sum (pu_land A) (w * h)) with z | z
  · exact absurd W.2.2.2.2.2.2.2 (s2.mp z)
  · exact z
theorem pu_WF_of (W : pu_AW A w h) (h4 : pu_is A 4 (w * h)) : pu_WF A w h (pu_v A 2) (pu_v A 3) := ⟨W.1, W.2.1, W.2.2.1, W.2.2.2.1, h4⟩
theorem pu_aE_WF (W : pu_AW A w h) : pu_WF (pu_aE A w h) w h (pu_v A 2) (pu_v A 3) ∧ ∀ j, 1028 ≤ j → pu_aE A w h j = 0 := by
  unfold pu_aE
  by_cases c : A 4 = -1
  · rw [if_pos c]
    obtain ⟨l1, -⟩ := pu_fl_lt W
    have W' := (pu_team_AW W l1).2
    obtain ⟨w1, w2, h1, h2⟩ := pu_AW_b W
    have := pu_wh w2 h2
    have := pu_WF_of W' (pu_is_of pu_upd_s l1 (by omega))
    rw [pu_v_cong (show upd A 4 (Int32.ofNat (pu_fl A w h)) 2 = A 2 from pu_upd_n (by decide)), pu_v_cong (show upd A 4 (Int32.ofNat (pu_fl A w h)) 3 = A 3 from pu_upd_n (by decide))] at this
    exact ⟨this, W'.2.2.2.2.2.1⟩
  · rw [if_neg c]
    exact ⟨pu_WF_of W (W.2.2.2.2.1.resolve_left c), W.2.2.2.2.2.1⟩
/-- what reading leaves in the class -/
def pu_RDC (B : Nat → Nat) (L w h : Nat) (σ0 : tw_Sg) (X : pu_Xs) (r : Int32 × tw_Sg) : Prop := r.1 = pu_eI X.1 ∧ r.2 400 8 = pu_eJ X.1 ∧ (X.1 = none → pu_CD (pu_bk r.2 403) (pu_aE X.2.2 w h) w h (pu_v X.2.2 2) (pu_v X.2.2 3)) ∧ pu_fK σ0 r.2
theorem pu_SC_err (H : pu_SC B L w h σ0 Q E p σ) : σ 400 7 = pu_eI E ∧ σ 400 8 = pu_eJ E ∧ (σ 400 7 = 0 ↔ E = none) := by
  obtain ⟨⟨s, ⟨-, -, -, e1⟩, -⟩, -⟩ := H
  cases E with
  | none => exact ⟨e1.1, e1.2, ⟨fun _ => rfl, fun _ => e1.1⟩⟩
  | some e => exact ⟨e1.1, e1.2.2, ⟨fun z => absurd (e1.1.symm.trans z) e1.2.1, fun z => by cases z⟩⟩
theorem pu_scStm {s : tw_Sg} (H : pu_SC B L w h σ0 (pu_dC A w h) none p s) (W : pu_AW A w h) (hn : 2000 < n) {j19 : tw_Sg → Option (Int32 × tw_Sg)} {R : Int32 × tw_Sg → Prop} (hj : ∀ t, pu_SC B L w h σ0 (pu_dC (pu_stm B L w h p A).2.2 w h) (pu_stm B L w h p A).1 (pu_stm B L w h p A).2.1 t → pu_wp (j19 t) R) : pu_wp (tw_bd (tw_P_X6_isWord n 0 s) (fun r17 =>
if r17 = 0 then (tw_bd (tw_P_X6_isWord n 1 s) (fun r21 =>
if r21 = 0 then (tw_bd (tw_P_X6_isWord n 2 s) (fun r22 =>
if r22 = 0 then (tw_bd (tw_P_X6_isWord n 3 s) (fun r23 =>
if r23 = 0 then (tw_bd (tw_P_X6_isWord n 4 s) (fun r24 =>
if r24 = 0 then (tw_bd (tw_P_X6_fail (-2 : Int32) (s 400 4) s) (fun r25 =>
j19 r25))
else (tw_bd (tw_P_X6_readClue n s) (fun r26 =>
j19 r26))))
else (tw_bd (tw_P_X6_readTeam n s) (fun r27 =>
j19 r27))))
else (tw_bd (tw_P_X6_readMark n s) (fun r28 =>
j19 r28))))
else (tw_bd (tw_P_X6_readBend n s) (fun r29 =>
j19 r29))))
else (tw_bd (tw_P_X6_readWater n s) (fun r30 =>
j19 r30)))) R := by
  have hw : ∀ k, k < 21 → tw_P_X6_isWord n k s = some (pu_b1 (pu_isW B L p k)) := fun k hk => by
    obtain ⟨b, hb, hz⟩ := pu_scIs (k := k) H hk hn
    rw [hb, hz rfl]
  have hne : ∀ k, pu_isW B L p k = false → ¬ pu_isW B L p k = true := fun k z y => by rw [z] at y; cases y
  unfold pu_stm at hj
  refine pu_bde (hw 0 (by decide)) (pu_if (fun c0 => ?_) (fun c0 => ?_)) <;> rw [pu_b1_0] at c0
  rotate_left
  · rw [if_pos (pu_bF c0)] at hj
    exact pu_bd (pu_scWater H W hn) hj
  rw [if_neg (hne _ c0)] at hj
  refine pu_bde (hw 1 (by decide)) (pu_if (fun c1 => ?_) (fun c1 => ?_)) <;> rw [pu_b1_0] at c1
  rotate_left
  · rw [if_pos (pu_bF c1)] at hj
    exact pu_bd (pu_scBend H W hn) hj
  rw [if_neg (hne _ c1)] at hj
  refine pu_bde (hw 2 (by decide)) (pu_if (fun c2 => ?_) (fun c2 => ?_)) <;> rw [pu_b1_0] at c2
  rotate_left
  · rw [if_pos (pu_bF c2)] at hj
    exact pu_bd (pu_scMark H W hn) hj
  rw [if_neg (hne _ c2)] at hj
  refine pu_bde (hw 3 (by decide)) (pu_if (fun c3 => ?_) (fun c3 => ?_)) <;> rw [pu_b1_0] at c3
  rotate_left
  · rw [if_pos (pu_bF c3)] at hj
    exact pu_bd (pu_scTeam H W hn) hj
  rw [if_neg (hne _ c3)] at hj
  refine pu_bde (hw 4 (by decide)) (pu_if (fun c4 => ?_) (fun c4 => ?_)) <;> rw [pu_b1_0] at c4
  rotate_left
  · rw [if_pos (pu_bF c4)] at hj
    exact pu_bd (pu_scClue H W hn) hj
  rw [if_neg (hne _ c4)] at hj
  exact pu_bd (pu_scF (o := p) H (by decide) (fun z => (pu_SC_p H z).1)) (fun t ht => hj t ht.1)
theorem pu_scLoop {X0 Xf : pu_Xs} {s : tw_Sg} (H0 : pu_SC B L w h σ0 (pu_dC X0.2.2 w h) X0.1 X0.2.1 s) (W0 : X0.1 = none → pu_AW X0.2.2 w h) (hX0 : pu_run B L w h (L + 1) X0 = Xf) (hL : L ≤ 600) (hn : 2000 < n) : pu_wp (tw_lp (fun (k10 : (Int32 × tw_Sg) → Option (Int32 × tw_Sg)) (a9 : Int32 × tw_Sg) =>
tw_jn (fun (a11 : Unit) =>
tw_jn (fun (a13 : tw_Sg) =>
some ((a13 400 7), a13)) (fun (j14 : (tw_Sg) → Option (Int32 × tw_Sg)) =>
if ¬ (a9.2 403 10) = 0 then (j14 a9.2)
else (tw_bd (tw_P_X0_at n 404 (0 : Int32) a9.2) (fun r15 =>
tw_lt (tw_up a9.2 403 10 r15) (fun (σ16 : tw_Sg) =>
j14 σ16))))) (fun (j12 : (Unit) → Option (Int32 × tw_Sg)) =>
if (600 : Int32) ≤ a9.1 then (j12 ())
else (if ¬ (a9.2 400 7) = 0 then (j12 ())
else (if (a9.2 400 6) = 0 then (j12 ())
else (tw_bd (tw_P_X6_isWord n 0 a9.2) (fun r17 =>
tw_jn (fun (a18 : tw_Sg) =>
tw_lt (a9.1 + (1 : Int32)) (fun (v20 : Int32) =>
k10 (v20, a18))) (fun (j19 : (tw_Sg) → Option (Int32 × tw_Sg)) =>
if r17 = 0 then (tw_bd (tw_P_X6_isWord n 1 a9.2) (fun r21 =>
if r21 = 0 then (tw_bd (tw_P_X6_isWord n 2 a9.2) (fun r22 =>
if r22 = 0 then (tw_bd (tw_P_X6_isWord n 3 a9.2) (fun r23 =>
if r23 = 0 then (tw_bd (tw_P_X6_isWord n 4 a9.2) (fun r24 =>
if r24 = 0 then (tw_bd (tw_P_X6_fail (-2 : Int32) (a9.2 400 4) a9.2) (fun r25 =>
j19 r25))
else (tw_bd (tw_P_X6_readClue n a9.2) (fun r26 =>
j19 r26))))
else (tw_bd (tw_P_X6_readTeam n a9.2) (fun r27 =>
j19 r27))))
else (tw_bd (tw_P_X6_readMark n a9.2) (fun r28 =>
j19 r28))))
else (tw_bd (tw_P_X6_readBend n a9.2) (fun r29 =>
j19 r29))))
else (tw_bd (tw_P_X6_readWater n a9.2) (fun r30 =>
j19 r30))))))))) n ((0 : Int32), s)) (pu_RDC B L w h σ0 Xf) := by
  refine pu_lp (J := fun x => ∃ i f X, i ≤ 600 ∧ x.1 = Int32.ofNat i ∧ pu_run B L w h f X = Xf ∧ pu_SC B L w h σ0 (pu_dC X.2.2 w h) X.1 X.2.1 x.2 ∧ (X.1 = none → pu_AW X.2.2 w h ∧ i ≤ X.2.1 ∧ L < f + X.2.1)) (m := fun x => 601 - x.1.toNatClampNeg) ?_ n _ (by show 601 - _ < n; omega) ⟨0, L + 1, X0, by omega, rfl, hX0, H0, fun z => ⟨W0 z, Nat.zero_le _, by omega⟩⟩
  clear hX0 H0 W0
  rintro k10 ⟨ii, s⟩ ⟨i, f, X, hi, e1, hX, H, hF⟩ hk10
  dsimp only [] at e1 H
  subst e1
  dsimp only []
  have hB := pu_SC_B H
  obtain ⟨er1, er2, er3⟩ := pu_SC_err H
  refine pu_jn (R := fun _ => ¬ (X.1 = none ∧ X.2.1 < L)) (fun u hu => ?_) (fun g hg => ?_)
  · have hu : ¬ (X.1 = none ∧ X.2.1 < L) := hu
    rw [pu_run_e hu] at hX
    subst hX
    by_cases z : X.1 = none
    · obtain ⟨W, -⟩ := hF z
      obtain ⟨w1, w2, h1, h2⟩ := pu_AW_b W
      have hwh := pu_wh w2 h2
      have D := H.2.2.1 z
      have h10 : s 403 10 = 0 ↔ X.2.2 4 = -1 := by
        rw [show s 403 10 = pu_eS w (pu_tm X.2.2) from D.1.1.2.2.2.2.2.2.1, pu_eSz (fun c hc => (pu_AW_tm W hc).1) w2 h2]
        exact pu_tm0
      refine pu_jn (R := fun t => t 400 = s 400 ∧ pu_fK s t ∧ pu_CD (pu_bk t 403) (pu_aE X.2.2 w h) w h (pu_v X.2.2 2) (pu_v X.2.2 3)) (fun t ht => pu_some ⟨?_, ?_, fun _ => ht.2.2, pu_fK_trans H.2.2.2 ht.2.1⟩) (fun f hf => ?_)
      · show t 400 7 = _
        rw [ht.1]; exact er1
      · show t 400 8 = _
        rw [ht.1]; exact er2
      refine pu_if (fun c => hf _ ⟨rfl, pu_fK_refl, ?_⟩) (fun c => ?_) <;> rw [h10] at c
      · unfold pu_aE
        rw [if_neg c]
        exact D.1
      · have c := Classical.not_not.mp c
        obtain ⟨l1, -⟩ := pu_fl_lt W
        obtain ⟨s1, s2⟩ := pu_sum0 (g := pu_land X.2.2) (w * h)
        have hpos : 0 < pu_sum (pu_land X.2.2) (w * h) := by
          rcases Nat.eq_zero_or_pos (pu_sum (pu_land X.2.2) (w * h)) with y | y
          · exact absurd W.2.2.2.2.2.2.2 (s2.mp y)
          · exact y
        refine pu_bd (pu_cat (th := 404) (i := 0) pu_k404 w2 h2 D.1.2.1 hpos (by omega)) (fun r hr => pu_lt (hf _ ⟨tw_up_n (by decide), pu_fK_up (by decide), ?_⟩))
        have hr : r = Int32.ofNat (pu_sp w (pu_fl X.2.2 w h)) := hr
        subst hr
        unfold pu_aE
        rw [if_pos c]
        obtain ⟨em, -⟩ := pu_team_AW W l1
        have hb : ∀ j i, ¬ (j = 0 ∧ i = 10) → pu_bk (tw_up s 403 10 (Int32.ofNat (pu_sp w (pu_fl X.2.2 w h)))) 403 j i = pu_bk s 403 j i := fun j i hj => by
          unfold pu_bk
          by_cases e : j = 0
          · subst e
            rw [show 403 + 0 = 403 from rfl, tw_up_s, pu_upd_n (by omega)]
          · rw [tw_up_n (show 403 + j ≠ 403 by omega)]
        have e5 : upd X.2.2 4 (Int32.ofNat (pu_fl X.2.2 w h)) 4 = Int32.ofNat (pu_fl X.2.2 w h) := pu_upd_s
        have eo : ∀ j, j ≠ 4 → upd X.2.2 4 (Int32.ofNat (pu_fl X.2.2 w h)) j = X.2.2 j := fun j hj => pu_upd_n hj
        have := (pu_dC_cong W (fun j hj => eo j (by omega)) (fun j hj => eo j (by omega)) em D (fun j i _ _ z1 => hb j i z1) (by
          show tw_up s 403 10 _ (403 + 0) 10 = _
          rw [show 403 + 0 = 403 from rfl, tw_up_s, pu_upd_s]
          unfold pu_tm
          rw [e5, if_neg (pu_nm1 (by omega)), pu_v_of e5 (by omega)]
          rfl) (pu_set_ext (pu_set_cong D.1.2.1 (funext fun i => hb 2 i (by omega))) (fun c hc => by
          unfold pu_land
          rw [eo (8 + c) (by omega)])) (fun m hm8 => by
          rw [hb 6 m (by omega)]
          refine (D.1.2.2.2.1 m hm8).trans ?_
          unfold pu_mk
          rw [eo (808 + m) (by omega), pu_v_cong (eo (808 + m) (by omega))])).1
        rw [pu_v_cong (eo 2 (by decide)), pu_v_cong (eo 3 (by decide))] at this
        exact this
    · refine pu_jn (R := fun t => t 400 = s 400 ∧ pu_fK s t) (fun t ht => pu_some ⟨?_, ?_, fun y => absurd y z, pu_fK_trans H.2.2.2 ht.2⟩) (fun f hf => ?_)
      · show t 400 7 = _
        rw [ht.1]; exact er1
      · show t 400 8 = _
        rw [ht.1]; exact er2
      refine pu_if (fun c => hf _ ⟨rfl, pu_fK_refl⟩) (fun c => ?_)
      refine pu_bd (R := fun _ => True) ?_ (fun r _ => pu_lt (hf _ ⟨tw_up_n (by decide), pu_fK_up (by decide)⟩))
      unfold tw_P_X0_at
      refine pu_lt (pu_lt ?_)
      refine pu_lp (J := fun t => ∃ i, i ≤ 704 ∧ t.2 = Int32.ofNat i) (m := fun t => 704 - t.2.toNatClampNeg) ?_ n _ (by show 704 - _ < n; omega) ⟨0, by omega, rfl⟩
      rintro k4 ⟨aa, bb⟩ ⟨j, hj, e1⟩ hk4
      dsimp only [] at e1
      subst e1
      dsimp only []
      refine pu_if (fun _ => pu_some trivial) (fun c2 => ?_)
      rw [show (704 : Int32) = Int32.ofNat 704 from rfl, pu_le (by decide) (by omega)] at c2
      obtain ⟨b, hb⟩ := pu_has_any (σ := s) (th := 404) (x := Int32.ofNat j) pu_k404
      refine pu_bde hb (pu_jn (R := fun _ => True) (fun a6 _ => pu_lt ?_) (fun f2 hf2 => ?_))
      · have em : Int32.ofNat j + (1 : Int32) = Int32.ofNat (j + 1) := pu_add j 1
        rw [em]
        refine hk4 _ ⟨j + 1, by omega, rfl⟩ ?_
        show 704 - (Int32.ofNat (j + 1)).toNatClampNeg < 704 - (Int32.ofNat j).toNatClampNeg
        rw [pu_n (by omega), pu_n (by omega)]
        omega
      · exact pu_if (fun _ => hf2 _ trivial) (fun _ => pu_if (fun _ => pu_lt (hf2 _ trivial)) (fun _ => pu_some trivial))
  refine pu_if (fun c => ?_) (fun c => ?_) <;> rw [show (600 : Int32) = Int32.ofNat 600 from rfl, pu_le (by decide) (by omega)] at c
  · exact hg () (fun z => by have := (hF z.1).2.1; omega)
  refine pu_if (fun c2 => ?_) (fun c2 => ?_) <;> rw [er3] at c2
  · exact hg () (fun z => c2 z.1)
  have c2 := Classical.not_not.mp c2
  obtain ⟨E, p', A1⟩ := X
  have c2 : E = none := c2
  subst c2
  obtain ⟨W, g1, g2⟩ := hF rfl
  dsimp only [] at H W g1 g2
  obtain ⟨hp4, hpL⟩ := pu_SC_p H rfl
  have h6 : s 400 6 = Int32.ofNat (pu_tk B L p') := by
    obtain ⟨s', q1, q2⟩ := H.1
    have := q2 rfl
    subst this
    exact q1.2.1.2.2
  have htk4 := pu_tk4 (B := B) (L := L) (s := p')
  refine pu_if (fun c3 => ?_) (fun c3 => ?_) <;> rw [h6, show (0 : Int32) = Int32.ofNat 0 from rfl, pu_eq (by omega) (by decide), pu_tk00 hpL] at c3
  · exact hg () (fun z => c3 z.2)
  have c3 := Classical.not_not.mp c3
  cases f with
  | zero => omega
  | succ f =>
    rw [pu_run_s ⟨rfl, c3⟩] at hX
    refine pu_scStm (σ0 := σ0) (w := w) (h := h) H W hn (j19 := fun a18 => tw_lt (Int32.ofNat i + (1 : Int32)) (fun (v20 : Int32) => k10 (v20, a18))) (fun t ht => pu_lt ?_)
    have em : Int32.ofNat i + (1 : Int32) = Int32.ofNat (i + 1) := pu_add i 1
    rw [em]
    refine hk10 _ ⟨i + 1, f, _, by omega, rfl, hX, ht, fun z => ⟨pu_stm_AW hB W z, ?_, ?_⟩⟩ ?_
    · have : p' < (pu_stm B L w h p' A1).2.1 := (pu_stm_p c3 z).1
      show i + 1 ≤ (pu_stm B L w h p' A1).2.1
      omega
    · have : p' < (pu_stm B L w h p' A1).2.1 := (pu_stm_p c3 z).1
      show L < f + (pu_stm B L w h p' A1).2.1
      omega
    · show 601 - (Int32.ofNat (i + 1)).toNatClampNeg < 601 - (Int32.ofNat i).toNatClampNeg
      rw [pu_n (by omega), pu_n (by omega)]
      omega
end CRD
