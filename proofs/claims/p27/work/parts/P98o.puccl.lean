/-! the class: a clue -/
section CCL
variable {σ σ0 : tw_Sg} {B : Nat → Nat} {L p n w h q : Nat} {E : Option (Int32 × Nat)} {A A' : Nat → Int32} {Q Q' : tw_Sg → Prop}
abbrev pu_Xs : Type := Option (Int32 × Nat) × Nat × (Nat → Int32)
noncomputable def pu_z1s (B : Nat → Nat) (L q : Nat) (E : Option (Int32 × Nat)) (p : Nat) (A : Nat → Int32) : pu_Xs := (pu_eZ B L A q E p, pu_nx B L p, pu_qZ B A q p)
noncomputable def pu_zs (B : Nat → Nat) (L q : Nat) : Nat → pu_Xs → pu_Xs
  | 0, X => X
  | f + 1, X => if (X.1.isNone && pu_isW B L X.2.1 8) = true then pu_zs B L q f (pu_z1s B L q none (pu_nx B L X.2.1) X.2.2) else X
noncomputable def pu_gs (B : Nat → Nat) (L q : Nat) : Nat → pu_Xs → pu_Xs
  | 0, X => X
  | f + 1, X => if (X.1.isNone && pu_la B L X.2.1) = true then pu_gs B L q f (pu_eG B L X.2.2 q none X.2.1, pu_pG B L X.2.1, pu_qG B L X.2.2 q X.2.1) else X
theorem pu_zs_e {f : Nat} {X : pu_Xs} (h : ¬ (X.1 = none ∧ pu_isW B L X.2.1 8 = true)) : pu_zs B L q f X = X := by
  cases f with
  | zero => rfl
  | succ f =>
    refine if_neg (fun z => h ?_)
    rw [Bool.and_eq_true, Option.isNone_iff_eq_none] at z
    exact z
theorem pu_zs_s {f : Nat} {X : pu_Xs} (h : X.1 = none ∧ pu_isW B L X.2.1 8 = true) : pu_zs B L q (f + 1) X = pu_zs B L q f (pu_z1s B L q none (pu_nx B L X.2.1) X.2.2) := by
  refine if_pos ?_
  rw [Bool.and_eq_true, Option.isNone_iff_eq_none]
  exact h
theorem pu_gs_e {f : Nat} {X : pu_Xs} (h : ¬ (X.1 = none ∧ pu_la B L X.2.1 = true)) : pu_gs B L q f X = X := by
  cases f with
  | zero => rfl
  | succ f =>
    refine if_neg (fun z => h ?_)
    rw [Bool.and_eq_true, Option.isNone_iff_eq_none] at z
    exact z
theorem pu_gs_s {f : Nat} {X : pu_Xs} (h : X.1 = none ∧ pu_la B L X.2.1 = true) : pu_gs B L q (f + 1) X = pu_gs B L q f (pu_eG B L X.2.2 q none X.2.1, pu_pG B L X.2.1, pu_qG B L X.2.2 q X.2.1) := by
  refine if_pos ?_
  rw [Bool.and_eq_true, Option.isNone_iff_eq_none]
  exact h
theorem pu_isW_lt {k : Nat} (h : pu_isW B L p k = true) : p < L := pu_tk0 (B := B) (by rw [(pu_isW_iff.mp h).1]; decide)
theorem pu_la_lt (h : pu_la B L p = true) : p < L := by
  unfold pu_la at h
  rw [Bool.or_eq_true, Bool.or_eq_true] at h
  rcases h with (h | h) | h <;> exact pu_isW_lt h
theorem pu_nx_ge (hp : p ≤ L) : p ≤ pu_nx B L p ∧ pu_nx B L p ≤ L := ⟨(pu_nx_rng (B := B) hp).1, (pu_nx_rng (B := B) hp).2.1⟩
theorem pu_pG_ge (hp : p < L) : p < pu_pG B L p ∧ pu_pG B L p ≤ L := by
  have a0 := (pu_nx_rng (B := B) (Nat.le_of_lt hp)).2.2.1 hp
  have a1 := pu_nx_ge (B := B) (Nat.le_of_lt hp)
  have a2 := pu_nx_ge (B := B) a1.2
  have g1 : pu_nx B L p ≤ pu_p1 B L (pu_lk B L p) p ∧ pu_p1 B L (pu_lk B L p) p ≤ L := by
    unfold pu_p1
    split
    · exact ⟨Nat.le_refl _, a1.2⟩
    · exact a2
  have g2 := pu_nx_ge (B := B) g1.2
  have g3 := pu_nx_ge (B := B) g2.2
  have g4 := pu_nx_ge (B := B) g3.2
  unfold pu_pG pu_p3 pu_p2
  split
  · exact ⟨by omega, g4.2⟩
  · exact ⟨by omega, g2.2⟩
theorem pu_SC_any {e : Int32 × Nat} {p' : Nat} (H : pu_SC B L w h σ0 Q (some e) p σ) : pu_SC B L w h σ0 Q' (some e) p' σ := ⟨pu_cS_any H.1, H.2.1, fun z => (by cases z), H.2.2.2⟩
def pu_aC (A : Nat → Int32) (q : Nat) : Nat → Int32 := upd (upd A (pu_cl q) 1) 3 (Int32.ofNat (q + 1))
noncomputable def pu_x1 (B : Nat → Nat) (L : Nat) (A : Nat → Int32) (p : Nat) : pu_Xs := pu_z1s B L (pu_v A 3) (pu_fs none (pu_v A 3 ≠ 4) (-6) p) (pu_nx B L p) A
noncomputable def pu_x3 (B : Nat → Nat) (L : Nat) (A : Nat → Int32) (p : Nat) : pu_Xs := pu_gs B L (pu_v A 3) (L + 1) (pu_zs B L (pu_v A 3) (L + 1) (pu_x1 B L A p))
noncomputable def pu_xC (B : Nat → Nat) (L : Nat) (A : Nat → Int32) (p : Nat) : pu_Xs := (pu_fs (pu_x3 B L A p).1 (pu_semi B L (pu_x3 B L A p).2.1 = true) (-2) (pu_x3 B L A p).2.1, pu_nx B L (pu_x3 B L A p).2.1, pu_aC (pu_x3 B L A p).2.2 (pu_v A 3))
/-- the row with the clue done -/
theorem pu_C_AW (W : pu_AQ A w h q) : pu_AW (pu_aC A q) w h ∧ pu_v (pu_aC A q) 3 = q + 1 := by
  obtain ⟨⟨⟨m1, m2, m3⟩, ⟨b1, b2, b3⟩, ⟨c1, c2, c3⟩, ⟨d1, d2, d3, d4, d5⟩, d6, hz, hcz, hL⟩, h4, Wq, h0, -⟩ := W
  have hcl : 856 ≤ pu_cl q := by unfold pu_cl; omega
  have hcl2 : pu_cl q + 43 ≤ 1028 := by unfold pu_cl; omega
  have i3 : pu_aC A q 3 = Int32.ofNat (q + 1) := pu_upd_s
  have iq : pu_aC A q (pu_cl q) = 1 := by unfold pu_aC; rw [pu_upd_n (by omega), pu_upd_s]
  have o : ∀ j, j ≠ 3 → j ≠ pu_cl q → pu_aC A q j = A j := fun j z1 z2 => by unfold pu_aC; rw [pu_upd_n z1, pu_upd_n z2]
  generalize pu_aC A q = A' at i3 iq o ⊢
  have e3 : pu_v A' 3 = q + 1 := pu_v_of i3 (by omega)
  have e2 : pu_v A' 2 = pu_v A 2 := pu_v_cong (o 2 (by omega) (by omega))
  have eqq : ∀ c, c ≠ q → pu_eqq A A' c := fun c hc j hj => o _ (by unfold pu_cl; omega) (by unfold pu_cl; omega)
  have em : pu_eqm A A' := fun m hm _ => o _ (by omega) (by omega)
  refine ⟨⟨⟨(o 0 (by omega) (by omega)).trans m1, (o 1 (by omega) (by omega)).trans m2, m3⟩, ⟨?_, ?_, fun k hk => ?_⟩, ⟨?_, ?_, fun c hc => ?_⟩, ⟨fun c hc => ?_, fun c hc => ?_, fun m hm8 => ?_, pu_is_cong (o 6 (by omega) (by omega)) d4, pu_is_cong (o 7 (by omega) (by omega)) d5⟩, ?_, fun j hj => ?_, fun q' z1 z2 j hj => ?_, ?_⟩, e3⟩
  · rw [e2, o 2 (by omega) (by omega)]; exact b1
  · rw [e2]; exact b2
  · rw [e2] at hk
    obtain ⟨l, t, r, u, g1, g2, g3, g4, g5⟩ := b3 k hk
    refine ⟨l, t, r, u, (o _ (by omega) (by omega)).trans g1, (o _ (by omega) (by omega)).trans g2, (o _ (by omega) (by omega)).trans g3, (o _ (by omega) (by omega)).trans g4, ?_⟩
    rw [o (816 + 5 * k + 4) (by omega) (by omega)]
    exact g5
  · rw [e3]; exact i3
  · rw [e3]; omega
  · rw [e3] at hc
    by_cases e : c = q
    · subst e
      obtain ⟨f1, f2, f3, f4, f5⟩ := Wq
      have es : ∀ j, 1 ≤ j → A' (pu_cl c + j) = A (pu_cl c + j) := fun j hj => o _ (by omega) (by omega)
      have en : pu_ns A' c = pu_ns A c := pu_v_cong (es 1 (by omega))
      have el : pu_nl A' c = pu_nl A c := pu_v_cong (es 2 (by omega))
      have est : ∀ k, A' (pu_cl c + 3 + k) = A (pu_cl c + 3 + k) := fun k => o _ (by omega) (by omega)
      refine ⟨Or.inr iq, pu_is_cong (es 1 (by omega)) f2, pu_is_cong (es 2 (by omega)) f3, fun k hk => ?_, fun l hl => ?_⟩
      · rw [en] at hk
        obtain ⟨s1, s2⟩ := f4 k hk
        refine ⟨pu_is_cong (est k) s1, ?_⟩
        rw [pu_v_cong (est k)]
        exact pu_is_cong (o _ (by omega) (by have := s1.2; omega)) s2
      · rw [el] at hl
        have l9 : pu_nl A c < 9 := f3.2
        have eg : ∀ j, A' (pu_lg c l + j) = A (pu_lg c l + j) := fun j => o _ (by unfold pu_lg; omega) (by unfold pu_lg pu_cl; omega)
        obtain ⟨g1, g2, g3, g4⟩ := f5 l hl
        have k0 : pu_kind A' c l = pu_kind A c l := pu_v_cong (eg 0)
        have k1 : pu_many A' c l = pu_many A c l := pu_v_cong (eg 1)
        refine ⟨pu_is_cong (eg 0) g1, pu_is_cong (eg 3) g2, fun z => ?_, fun z => ?_⟩
        · rw [k0] at z
          exact ⟨pu_is_cong (eg 1) (g3 z).1, pu_is_cong (eg 2) (g3 z).2⟩
        · rw [k0] at z
          rw [k1]
          exact ⟨pu_is_cong (eg 1) (g4 z).1, pu_is_cong (o _ (by omega) (by have := (g4 z).1.2; have : pu_many A c l < 8 := this; omega)) (g4 z).2⟩
    · exact pu_wfq_cong m3.2.1 m3.2.2.2 (eqq c e) em (c3 c (by omega))
  · rw [o _ (by omega) (by omega)]; exact d1 c hc
  · rw [o _ (by omega) (by omega)]; exact d2 c hc
  · rw [o _ (by omega) (by omega)]
    exact (d3 m hm8).imp id (pu_is_cong (o _ (by omega) (by omega)))
  · rw [o 4 (by omega) (by omega)]
    exact d6.imp id (pu_is_cong (o 4 (by omega) (by omega)))
  · rw [o j (by omega) (by omega)]; exact hz j hj
  · rw [e3] at z1
    rw [eqq q' (by omega) j hj]
    exact hcz q' (by omega) z2 j hj
  · obtain ⟨d, e1, e2⟩ := hL
    have := pu_wh m3.2.1 m3.2.2.2
    refine ⟨d, e1, ?_⟩
    unfold pu_land
    rw [o _ (by omega) (by omega)]
    exact e2
theorem pu_C_dC {b b' : tw_Sg} (W : pu_AQ A w h q) (D : pu_dQ A w h q b) (hb : ∀ j i, ¬ (j = 13 ∧ i = 0) → ¬ (j = 15 ∧ i = q) → b' j i = b j i) (h13 : b' 13 0 = Int32.ofNat (q + 1)) (h15 : b' 15 q = 1) : pu_dC (pu_aC A q) w h b' := by
  obtain ⟨-, e3⟩ := pu_C_AW W
  obtain ⟨⟨m1, ⟨-, b2, -⟩, ⟨-, c2, c3⟩, -⟩, h4, Wq, -⟩ := W
  have hwh := pu_wh m1.2.2.2.1 m1.2.2.2.2.2
  have hcl : 856 ≤ pu_cl q := by unfold pu_cl; omega
  have i3 : pu_aC A q 3 = Int32.ofNat (q + 1) := pu_upd_s
  have iq : pu_aC A q (pu_cl q) = 1 := by unfold pu_aC; rw [pu_upd_n (by omega), pu_upd_s]
  have o : ∀ j, j ≠ 3 → j ≠ pu_cl q → pu_aC A q j = A j := fun j z1 z2 => by unfold pu_aC; rw [pu_upd_n z1, pu_upd_n z2]
  generalize pu_aC A q = A' at e3 i3 iq o ⊢
  have e2 : pu_v A' 2 = pu_v A 2 := pu_v_cong (o 2 (by omega) (by omega))
  have eqq : ∀ c, c ≠ q → pu_eqq A A' c := fun c hc j hj => o _ (by unfold pu_cl; omega) (by unfold pu_cl; omega)
  have em : pu_eqm A A' := fun m hm _ => o _ (by omega) (by omega)
  have hbk : ∀ c, pu_bq b b' c := fun c => ⟨hb _ _ (by omega) (by omega), hb _ _ (by omega) (by omega), fun k hk => ⟨hb _ _ (by omega) (by omega), hb _ _ (by omega) (by omega), hb _ _ (by omega) (by omega), hb _ _ (by omega) (by omega), hb _ _ (by omega) (by omega), hb _ _ (by omega) (by omega)⟩⟩
  obtain ⟨⟨⟨t1, t2, t3, t4, t5, t6, t7, t8⟩, hl, hd, hmk, hbd, hc⟩, hp, hz⟩ := D
  unfold pu_dC
  rw [e2, e3]
  refine ⟨⟨⟨?_, ?_, ?_, ?_, ?_, ?_, ?_, fun z => ?_⟩, ?_, ?_, fun m hm8 => ?_, fun k hk => ?_, fun c hc' => ?_⟩, fun q' z1 z2 => ?_⟩
  · rw [hb 0 0 (by omega) (by omega), o 0 (by omega) (by omega)]; exact t1
  · rw [hb 0 1 (by omega) (by omega), o 1 (by omega) (by omega)]; exact t2
  · rw [hb 0 5 (by omega) (by omega), o 2 (by omega) (by omega)]; exact t3
  · rw [hb 0 11 (by omega) (by omega), o 5 (by omega) (by omega)]; exact t4
  · rw [hb 0 12 (by omega) (by omega), o 6 (by omega) (by omega)]; exact t5
  · rw [h13, i3]
  · rw [hb 0 10 (by omega) (by omega), t7]
    unfold pu_tm
    rw [o 4 (by omega) (by omega), pu_v_cong (o 4 (by omega) (by omega))]
  · rw [o 6 (by omega) (by omega)] at z
    rw [hb 0 13 (by omega) (by omega), t8 z, pu_v_cong (o 7 (by omega) (by omega))]
  · refine pu_set_ext (pu_set_cong hl (funext fun i => hb 2 i (by omega) (by omega))) (fun c hc => ?_)
    unfold pu_land
    rw [o (8 + c) (by omega) (by omega)]
  · refine pu_set_ext (pu_set_cong hd (funext fun i => hb 4 i (by omega) (by omega))) (fun c hc => ?_)
    unfold pu_dug
    rw [o (408 + c) (by omega) (by omega)]
  · rw [hb 6 m (by omega) (by omega), hmk m hm8]
    unfold pu_mk
    rw [o (808 + m) (by omega) (by omega), pu_v_cong (o (808 + m) (by omega) (by omega))]
  · obtain ⟨k1, k2, k3⟩ := hbd k hk
    refine ⟨?_, ?_, ?_⟩
    · rw [hb 8 k (by omega) (by omega), k1, pu_v_cong (o (816 + 5 * k) (by omega) (by omega)), pu_v_cong (o (816 + 5 * k + 1) (by omega) (by omega))]
    · rw [hb 10 k (by omega) (by omega), k2, pu_v_cong (o (816 + 5 * k + 2) (by omega) (by omega)), pu_v_cong (o (816 + 5 * k + 3) (by omega) (by omega))]
    · rw [hb 12 k (by omega) (by omega), k3, o (816 + 5 * k + 4) (by omega) (by omega)]
  · by_cases e : c = q
    · subst e
      refine ⟨h15.trans iq.symm, ?_⟩
      obtain ⟨p1, p2, p3, p4⟩ := hp
      obtain ⟨f1, f2, f3, f4, f5⟩ := Wq
      have n9 : pu_ns A c < 9 := f2.2
      have l9 : pu_nl A c < 9 := f3.2
      have es : ∀ j, 1 ≤ j → A' (pu_cl c + j) = A (pu_cl c + j) := fun j hj => o _ (by omega) (by omega)
      have en : pu_ns A' c = pu_ns A c := pu_v_cong (es 1 (by omega))
      have el : pu_nl A' c = pu_nl A c := pu_v_cong (es 2 (by omega))
      refine ⟨by rw [(hbk c).1, p1, es 1 (by omega)], by rw [(hbk c).2.1, p2, es 2 (by omega)], fun k hk => ?_, fun l hl => ?_⟩
      · rw [en] at hk
        rw [hb 19 _ (by omega) (by omega), p3 k hk, o _ (by omega) (by omega)]
      · rw [el] at hl
        have eg : ∀ j, A' (pu_lg c l + j) = A (pu_lg c l + j) := fun j => o _ (by unfold pu_lg; omega) (by unfold pu_lg pu_cl; omega)
        have k0 : pu_kind A' c l = pu_kind A c l := pu_v_cong (eg 0)
        have k1 : pu_many A' c l = pu_many A c l := pu_v_cong (eg 1)
        have k2 : pu_give A' c l = pu_give A c l := pu_v_cong (eg 2)
        obtain ⟨x1, x2, x3, x4, x5⟩ := p4 l hl
        refine ⟨?_, ?_, ?_, ?_, ?_⟩
        · rw [hb 23 _ (by omega) (by omega), x1]; exact (eg 0).symm
        · rw [hb 25 _ (by omega) (by omega), x2]; exact (eg 3).symm
        · rw [hb 27 _ (by omega) (by omega), x3]; unfold pu_few; rw [k0, k1, k2]
        · rw [hb 29 _ (by omega) (by omega), x4]; unfold pu_most; rw [k0, k1, k2]
        · rw [hb 31 _ (by omega) (by omega), x5]
          have g4 := (f5 l hl).2.2.2
          unfold pu_goal
          rw [k0, k1]
          by_cases y : pu_kind A c l = 1
          · have m8 : pu_many A c l < 8 := (g4 y).1.2
            rw [if_pos y, if_pos y, pu_v_cong (o (808 + pu_many A c l) (by omega) (by omega))]
          · rw [if_neg y, if_neg y]
    · refine ⟨?_, pu_CDp_cong m1.2.2.2.1 m1.2.2.2.2.2 (eqq c e) em (c3 c (by omega)) (hbk c) (hc c (by omega)).2⟩
      rw [hb 15 c (by omega) (by omega), show A' (pu_cl c) = A (pu_cl c) from eqq c e 0 (by decide)]
      exact (hc c (by omega)).1
  · rw [(hbk q').1, (hbk q').2.1]
    exact hz q' (by omega) z2
theorem pu_l418 : tw_ln (417 + 1) = 4 := by decide +kernel
/-- inside a clue, the class -/
def pu_SX (B : Nat → Nat) (L w h : Nat) (σ0 : tw_Sg) (q : Nat) (X : pu_Xs) (σ : tw_Sg) : Prop := pu_SC B L w h σ0 (pu_dQ X.2.2 w h q) X.1 X.2.1 σ ∧ (X.1 = none → pu_AQ X.2.2 w h q)
theorem pu_scLegs {X X3 : pu_Xs} {s : tw_Sg} (HX : pu_SC B L w h σ0 (pu_dQ X.2.2 w h q) X.1 X.2.1 s) (WX : X.1 = none → pu_AQ X.2.2 w h q) (hX : pu_gs B L q (L + 1) X = X3) (w2 : w ≤ 20) (h2 : h ≤ 20) (hn : 2000 < n) : pu_wp (tw_lp (fun (k12 : (Int32 × tw_Sg) → Option (tw_Sg)) (a11 : Int32 × tw_Sg) =>
tw_jn (fun (a13 : Unit) =>
tw_bd (tw_P_X6_takeSemicolon n a11.2) (fun r15 =>
tw_bd (tw_P_X7_put 417 (r15 416 0) (1 : Int32) r15) (fun r16 =>
tw_lt (tw_up r16 416 0 ((r16 416 0) + (1 : Int32))) (fun (σ17 : tw_Sg) =>
some σ17)))) (fun (j14 : (Unit) → Option (tw_Sg)) =>
if (8 : Int32) < a11.1 then (j14 ())
else (tw_bd (tw_P_X6_isLegAhead n a11.2) (fun r18 =>
if r18 = 0 then (j14 ())
else (tw_bd (tw_P_X6_readLeg n a11.2) (fun r19 =>
tw_lt (a11.1 + (1 : Int32)) (fun (v20 : Int32) =>
k12 (v20, r19)))))))) n ((0 : Int32), s)) (pu_SC B L w h σ0 (pu_dC (pu_aC X3.2.2 q) w h) (pu_fs X3.1 (pu_semi B L X3.2.1 = true) (-2) X3.2.1) (pu_nx B L X3.2.1)) := by
  have hB := pu_SC_B HX
  refine pu_lp (J := fun x => ∃ i f X, i ≤ 9 ∧ x.1 = Int32.ofNat i ∧ pu_gs B L q f X = X3 ∧ pu_SX B L w h σ0 q X x.2 ∧ (X.1 = none → i ≤ pu_nl X.2.2 q ∧ L < f + X.2.1)) (m := fun x => 10 - x.1.toNatClampNeg) ?_ n _ (by show 10 - _ < n; omega) ⟨0, L + 1, X, by omega, rfl, hX, ⟨HX, WX⟩, fun z => ⟨Nat.zero_le _, by omega⟩⟩
  clear hX HX WX
  rintro k12 ⟨ii, s⟩ ⟨i, f, X, hi, e1, hX, ⟨HX, WX⟩, hF⟩ hk12
  dsimp only [] at e1 HX
  subst e1
  dsimp only []
  refine pu_jn (R := fun _ => ¬ (X.1 = none ∧ pu_la B L X.2.1 = true)) (fun u hu => ?_) (fun g hg => ?_)
  · have hu : ¬ (X.1 = none ∧ pu_la B L X.2.1 = true) := hu
    rw [pu_gs_e hu] at hX
    subst hX
    refine pu_bd (pu_scS HX hn) (fun r15 hr => ?_)
    obtain ⟨H5, -⟩ := hr
    by_cases z : pu_fs X.1 (pu_semi B L X.2.1 = true) (-2) X.2.1 = none
    · have WQ := WX (pu_fs0.mp z).1
      have D5 := H5.2.2.1 z
      have hq := WQ.2.1
      have e0 : r15 416 0 = Int32.ofNat q := pu_dQ_q WQ D5
      rw [e0]
      refine pu_bde (pu_put (th := 417) pu_l418 (by decide) hq) (pu_lt (pu_someG (P := fun t => (∀ k, k ≠ 416 → k ≠ 418 → t k = r15 k) ∧ t 416 = upd (r15 416) 0 (Int32.ofNat (q + 1)) ∧ t 418 = upd (r15 418) q 1) ⟨fun k k1 k2 => ?_, ?_, ?_⟩ (fun t ht => ?_)))
      · rw [tw_up_n k1, tw_up_n (show k ≠ 417 + 1 from k2)]
      · rw [tw_up_s, tw_up_n (show 416 ≠ 417 + 1 by decide), e0]
        congr 1
        exact pu_add q 1
      · rw [tw_up_n (show 418 ≠ 416 by decide), show 418 = 417 + 1 from rfl, tw_up_s]
      · obtain ⟨u0, u1, u2⟩ := ht
        refine pu_SC_set H5 ⟨by rw [u0 403 (by decide) (by decide)], by rw [u0 403 (by decide) (by decide)]⟩ (u0 400 (by decide) (by decide)) (fun k hk => u0 k (by omega) (by omega)) (fun _ => pu_C_dC WQ D5 (fun j i a1 a2 => ?_) ?_ ?_)
        · show t (403 + j) i = r15 (403 + j) i
          by_cases c0 : j = 13
          · subst c0
            rw [show 403 + 13 = 416 from rfl, u1, pu_upd_n (by omega)]
          by_cases c1 : j = 15
          · subst c1
            rw [show 403 + 15 = 418 from rfl, u2, pu_upd_n (by omega)]
          rw [u0 (403 + j) (by omega) (by omega)]
        · show t 416 0 = _
          rw [u1, pu_upd_s]
        · show t 418 q = _
          rw [u2, pu_upd_s]
    · obtain ⟨t1, a1, c1⟩ := pu_put_any (σ := r15) (th := 417) (x := r15 416 0) (v := (1 : Int32)) (by rw [pu_l418]; decide)
      refine pu_bde a1 (pu_lt (pu_some (pu_SC_set H5 ⟨?_, ?_⟩ ?_ (fun k hk => ?_) (fun y => absurd y z))))
      · rw [tw_up_n (by decide), c1 403 (by decide)]
      · rw [tw_up_n (by decide), c1 403 (by decide)]
      · rw [tw_up_n (by decide), c1 400 (by decide)]
      · rw [tw_up_n (by omega), c1 k (by omega)]
  refine pu_if (fun c => ?_) (fun c => ?_) <;> rw [show (8 : Int32) = Int32.ofNat 8 from rfl, pu_ltn (by decide) (by omega)] at c
  · refine hg () (fun z => ?_)
    have := (hF z.1).1
    have := (WX z.1).2.2.1.2.2.1.2
    have : pu_nl X.2.2 q < 9 := this
    omega
  obtain ⟨b, hb, hbz⟩ := pu_scLA HX hn
  refine pu_bde hb (pu_if (fun c2 => ?_) (fun c2 => ?_)) <;> rw [pu_b1_0] at c2
  · refine hg () (fun z => ?_)
    rw [← hbz z.1, c2] at z
    exact Bool.noConfusion z.2
  have c2 := pu_bF c2
  refine pu_bd (pu_scLeg HX WX w2 h2 hn) (fun r19 hr => pu_lt ?_)
  obtain ⟨H6, -, -⟩ := hr
  have em : Int32.ofNat i + (1 : Int32) = Int32.ofNat (i + 1) := pu_add i 1
  rw [em]
  have hm : 10 - (Int32.ofNat (i + 1)).toNatClampNeg < 10 - (Int32.ofNat i).toNatClampNeg := by
    rw [pu_n (by omega), pu_n (by omega)]
    omega
  obtain ⟨E, p', A1⟩ := X
  cases E with
  | some e =>
    have e2 : pu_eG B L A1 q (some e) p' = some e := pu_l3_e rfl
    dsimp only [] at H6
    rw [e2] at H6
    exact hk12 _ ⟨i + 1, f, (some e, p', A1), by omega, rfl, hX, ⟨pu_SC_any H6, fun z => (by cases z)⟩, fun z => (by cases z)⟩ hm
  | none =>
    obtain ⟨g1, g2⟩ := hF rfl
    have hla : pu_la B L p' = true := by rw [← hbz rfl]; exact c2
    have hlt := pu_la_lt hla
    have hpG := pu_pG_ge (B := B) hlt
    dsimp only [] at g1 g2
    cases f with
    | zero => omega
    | succ f =>
      rw [pu_gs_s ⟨rfl, hla⟩] at hX
      refine hk12 _ ⟨i + 1, f, _, by omega, rfl, hX, ⟨H6, fun z => ?_⟩, fun z => ?_⟩ hm
      · exact (pu_G_AQ hB (WX rfl) z).2.2.2.2.2.2.2.2
      · have hz := pu_G_AQ hB (WX rfl) z
        refine ⟨?_, by dsimp only []; omega⟩
        have : pu_nl (pu_qG B L A1 q p') q = pu_nl A1 q + 1 := pu_v_of pu_aG_in.2.2.2.2 (by have h8 : pu_nl A1 q < 8 := hz.2.1; omega)
        show i + 1 ≤ pu_nl (pu_qG B L A1 q p') q
        omega
theorem pu_scClue (H : pu_SC B L w h σ0 (pu_dC A w h) none p σ) (W : pu_AW A w h) (hn : 2000 < n) : pu_wp (tw_P_X6_readClue n σ) (pu_SC B L w h σ0 (pu_dC (pu_xC B L A p).2.2 w h) (pu_xC B L A p).1 (pu_xC B L A p).2.1) := by
  obtain ⟨w1, w2, h1, h2⟩ := pu_AW_b W
  have hB := pu_SC_B H
  have h4 : pu_v A 3 ≤ 4 := W.2.2.1.2.1
  have D := H.2.2.1 rfl
  have e0 : σ 416 0 = Int32.ofNat (pu_v A 3) := (show σ 416 0 = A 3 from D.1.1.2.2.2.2.2.1).trans W.2.2.1.1
  have S : pu_sb 0 σ := by
    refine ⟨0, Nat.le_refl _, ?_⟩
    rw [e0]
    by_cases c : pu_v A 3 < 4
    · rw [pu_get (th := 419) pu_l420 (by decide) c]
      exact congrArg some (D.2 _ (Nat.le_refl _) c).1
    · rw [show pu_v A 3 = 4 from by omega]
      unfold tw_P_X7_get
      rw [pu_l420]
      rfl
  unfold tw_P_X6_readClue
  refine pu_jn (R := fun t => pu_SC B L w h σ0 (pu_dQ A w h (pu_v A 3)) (pu_fs none (pu_v A 3 ≠ 4) (-6) p) p t ∧ pu_sb 0 t) (fun t ht => ?_) (fun f hf => ?_)
  rotate_left
  · refine pu_if (fun c => hf _ ⟨?_, S⟩) (fun c => ?_) <;> rw [e0, show (4 : Int32) = Int32.ofNat 4 from rfl, pu_ltn (by omega) (by decide)] at c
    · rw [pu_fs_y (by omega)]
      exact ⟨H.1, H.2.1, fun z => pu_dC_dQ W c (H.2.2.1 z), H.2.2.2⟩
    · refine pu_bd (pu_scF (o := p) H (by decide) (fun z => (pu_SC_p H z).1)) (fun t ht => hf _ ⟨?_, pu_sb_fr S (ht.2.1 416 (by decide)) (ht.2.1 420 (by decide))⟩)
      rw [pu_fs_n (by omega)]
      exact pu_SC_any ht.1
  obtain ⟨H1, S1⟩ := ht
  have W1 : pu_fs none (pu_v A 3 ≠ 4) (-6) p = none → pu_AQ A w h (pu_v A 3) := fun z => pu_AW_AQ W (by have := (pu_fs0.mp z).2; omega)
  have hns : pu_v A 3 < 4 → pu_ns A (pu_v A 3) = 0 := fun c => pu_v0 (W.2.2.2.2.2.2.1 _ (Nat.le_refl _) c 1 (by decide))
  unfold pu_xC
  have hx3 : pu_gs B L (pu_v A 3) (L + 1) (pu_zs B L (pu_v A 3) (L + 1) (pu_x1 B L A p)) = pu_x3 B L A p := rfl
  have hx1 : pu_x1 B L A p = pu_z1s B L (pu_v A 3) (pu_fs none (pu_v A 3 ≠ 4) (-6) p) (pu_nx B L p) A := rfl
  generalize pu_x3 B L A p = X3 at hx3 ⊢
  generalize pu_x1 B L A p = X1 at hx3 hx1
  have hq4 : pu_fs none (pu_v A 3 ≠ 4) (-6) p = none → pu_v A 3 < 4 := fun z => by have := (pu_fs0.mp z).2; omega
  generalize pu_fs none (pu_v A 3 ≠ 4) (-6) p = E0 at H1 W1 hx1 hq4
  generalize pu_v A 3 = q at *
  refine pu_bd (pu_scA H1 hn) (fun r3 hr => ?_)
  obtain ⟨H2, fa⟩ := hr
  refine pu_bd (pu_scZ H2 W1 w2 h2 (pu_sb_fr S1 (fa.1 416 (by decide)) (fa.1 420 (by decide))) (by decide) hn) (fun r4 hr => pu_lt ?_)
  have hX1 : pu_SX B L w h σ0 q X1 r4 ∧ pu_sb 1 r4 ∧ (X1.1 = none → pu_ns X1.2.2 q = 1) := by
    subst hx1
    refine ⟨⟨hr.1, fun z => ?_⟩, hr.2, fun z => ?_⟩
    · exact (pu_Z_AQ hB (W1 (pu_fs0.mp (pu_fs0.mp (pu_fs0.mp z).1).1).1) z).2.1
    · have y := (pu_fs0.mp (pu_fs0.mp (pu_fs0.mp z).1).1).1
      have := (pu_Z_AQ hB (W1 y) z).2.2.1
      show pu_ns (pu_qZ B A q (pu_nx B L p)) q = 1
      rw [this, hns (hq4 y)]
  clear hr H2 fa H1 S1 W1 hx1 hq4 hns
  refine pu_lp (J := fun x => ∃ i f X, i ≤ 8 ∧ x.1 = Int32.ofNat i ∧ pu_gs B L q (L + 1) (pu_zs B L q f X) = X3 ∧ pu_SX B L w h σ0 q X x.2 ∧ pu_sb (i + 1) x.2 ∧ (X.1 = none → pu_ns X.2.2 q = i + 1 ∧ L < f + X.2.1)) (m := fun x => 10 - x.1.toNatClampNeg) ?_ n _ (by show 10 - _ < n; omega) ⟨0, L + 1, X1, by omega, rfl, hx3, hX1.1, hX1.2.1, fun z => ⟨hX1.2.2 z, by omega⟩⟩
  clear hX1 hx3 e0 S h4 D
  rintro k7 ⟨ii, s⟩ ⟨i, f, X, hi, e1, hX, ⟨HX, WX⟩, S, hF⟩ hk7
  dsimp only [] at e1 HX S
  subst e1
  dsimp only []
  refine pu_jn (R := fun _ => ¬ (X.1 = none ∧ pu_isW B L X.2.1 8 = true)) (fun u hu => ?_) (fun g hg => ?_)
  · -- the legs
    have hu : ¬ (X.1 = none ∧ pu_isW B L X.2.1 8 = true) := hu
    rw [pu_zs_e hu] at hX
    exact pu_lt (pu_scLegs HX WX hX w2 h2 hn)
  refine pu_if (fun c => ?_) (fun c => ?_) <;> rw [show (8 : Int32) = Int32.ofNat 8 from rfl, pu_le (by decide) (by omega)] at c
  · refine hg () (fun z => ?_)
    have := (hF z.1).1
    have := (WX z.1).2.2.1.2.1.2
    have : pu_ns X.2.2 q < 9 := this
    omega
  obtain ⟨b, hb, hbz⟩ := pu_scIs (k := 8) HX (by decide) hn
  refine pu_bde hb (pu_if (fun c2 => ?_) (fun c2 => ?_)) <;> rw [pu_b1_0] at c2
  · refine hg () (fun z => ?_)
    rw [← hbz z.1, c2] at z
    exact Bool.noConfusion z.2
  have c2 := pu_bF c2
  refine pu_bd (pu_scA HX hn) (fun r22 hr => ?_)
  obtain ⟨H5, fa⟩ := hr
  refine pu_bd (pu_scZ H5 WX w2 h2 (pu_sb_fr S (fa.1 416 (by decide)) (fa.1 420 (by decide))) (by omega) hn) (fun r23 hr => pu_lt ?_)
  obtain ⟨H6, S6⟩ := hr
  have em : Int32.ofNat i + (1 : Int32) = Int32.ofNat (i + 1) := pu_add i 1
  rw [em]
  have hm : 10 - (Int32.ofNat (i + 1)).toNatClampNeg < 10 - (Int32.ofNat i).toNatClampNeg := by
    rw [pu_n (by omega), pu_n (by omega)]
    omega
  obtain ⟨E, p', A1⟩ := X
  cases E with
  | some e => exact hk7 _ ⟨i + 1, f, (some e, p', A1), by omega, rfl, hX, ⟨pu_SC_any H6, fun z => (by cases z)⟩, S6, fun z => (by cases z)⟩ hm
  | none =>
    obtain ⟨g1, g2⟩ := hF rfl
    have hla : pu_isW B L p' 8 = true := by rw [← hbz rfl]; exact c2
    have hlt := pu_isW_lt hla
    have hpp := (pu_nx_rng (B := B) (Nat.le_of_lt hlt)).2.2.1 hlt
    have hp2 := (pu_nx_rng (B := B) (pu_nx_rng (B := B) (Nat.le_of_lt hlt)).2.1).1
    dsimp only [] at g1 g2
    cases f with
    | zero => omega
    | succ f =>
      rw [pu_zs_s ⟨rfl, hla⟩] at hX
      refine hk7 _ ⟨i + 1, f, _, by omega, rfl, hX, ⟨H6, fun z => ?_⟩, S6, fun z => ?_⟩ hm
      · exact (pu_Z_AQ hB (WX rfl) z).2.1
      · have := (pu_Z_AQ hB (WX rfl) z).2.2.1
        refine ⟨?_, ?_⟩
        · show pu_ns (pu_qZ B A1 q (pu_nx B L p')) q = i + 1 + 1
          rw [this, g1]
        · show L < f + pu_nx B L (pu_nx B L p')
          omega
end CCL
