/-! moveTo of the reference; dig -/
section CHG3
variable {σ : tw_Sg} {w h nb nc cn len n : Nat} {a : Nat → Int32} {hist : Nat → Nat → Int32} {buf : Nat → Nat} {err : Int32}
/-- a call begins: the reference is as it was -/
theorem pu_iropen {ρ : Type} {Q : ρ → Prop} {K : tw_Sg → Option ρ} (H : pu_WF a w h nb nc) (I : pu_IR σ w h nb nc a cn hist len buf err) (k : ∀ s : tw_Sg, s 442 0 = 0 → pu_IR s w h nb nc a cn hist len buf err → pu_fr pu_fR σ s → pu_wp (K s) Q) : pu_wp (tw_lt (tw_up σ 442 0 (0 : Int32)) K) Q :=
  pu_ropenG I.1 (fun s h0 hL hi hf => k s h0 (pu_IR_Q I hL hi hf) (pu_fr_mono hf (fun k hk => by unfold pu_FQ at hk; unfold pu_fR; omega)))
theorem pu_krfault {s : tw_Sg} {k v : Int32} {o : Int32 ⊕ Int32} {In : tw_Sg → Prop} (ho : o = .inr k) (hI : In (tw_up s 442 0 k)) (hf : pu_fr pu_fR σ s) : pu_KR σ o In (v, tw_up s 442 0 k) := by
  subst ho
  refine ⟨?_, fun u hu => (by cases hu), hI, pu_fr_trans hf (pu_fr_up (by unfold pu_fR; omega))⟩
  show tw_up s 442 0 k 442 0 = k
  rw [tw_up_s]
  exact if_pos rfl
theorem pu_IR_thr {s : tw_Sg} {k : Int32} (H : pu_WF a w h nb nc) (I : pu_IR s w h nb nc a cn hist len buf err) : pu_IR (tw_up s 442 0 k) w h nb nc a cn hist len buf err := by
  have := pu_rfault (σ := s) (v := 0) (k := k) (o := .inr k) rfl I.1 (fun _ _ _ => rfl) pu_fr_refl
  exact pu_IR_Q I this.2.2.1 this.2.2.2.1 this.2.2.2.2
/-! dig -/
def pu_t (a : Nat → Int32) : Nat := pu_v a 4
def pu_found (a : Nat → Int32) : Bool := !pu_dug a (pu_t a) && decide (a 6 = 1) && decide (pu_v a 7 = pu_t a)
def pu_aDig (a : Nat → Int32) : Nat → Int32 := if pu_found a = true then upd (upd a (408 + pu_t a) 1) 6 2 else upd a (408 + pu_t a) 1
def pu_oDig (a : Nat → Int32) : Int32 := if pu_dug a (pu_t a) = true then 0 else if pu_found a = true then 2 else 1
theorem pu_dig_e (H : pu_WF a w h nb nc) : ∀ j, j ≠ 408 + pu_t a → j ≠ 6 → pu_aDig a j = a j := fun j h1 h2 => by
  unfold pu_aDig
  split
  · rw [pu_upd_n h2, pu_upd_n h1]
  · rw [pu_upd_n h1]
theorem pu_dig_ag (H : pu_WF a w h nb nc) : pu_ag pu_X a (pu_aDig a) := fun j hj => by
  have h400 := pu_wfm_le H.1
  have ht : pu_t a < w * h := (pu_team H).2.1
  unfold pu_X at hj
  exact pu_dig_e H j (by omega) (by omega)
theorem pu_dig_t (H : pu_WF a w h nb nc) : pu_aDig a (408 + pu_t a) = 1 := by
  unfold pu_aDig
  split
  · rw [pu_upd_n (by omega), pu_upd_s]
  · rw [pu_upd_s]
theorem pu_dig_6 : pu_aDig a 6 = if pu_found a = true then 2 else a 6 := by
  unfold pu_aDig
  split
  · rw [pu_upd_s]
  · rw [pu_upd_n (by omega)]
theorem pu_dig_WF (H : pu_WF a w h nb nc) : pu_WF (pu_aDig a) w h nb nc := by
  have h400 := pu_wfm_le H.1
  have ht : pu_t a < w * h := (pu_team H).2.1
  have hnc := H.2.2.1.2.1
  have hnb := H.2.1.2.1
  refine pu_chg_WF H (pu_ag_Y (pu_dig_ag H)) (fun q hq => ?_) (fun c hc => ?_) ?_ (pu_is_cong (pu_dig_e H 7 (by omega) (by decide)) H.2.2.2.1.2.2.2.2) (pu_is_cong (pu_dig_e H 4 (by omega) (by decide)) H.2.2.2.2) (fun k hk => ?_)
  · rw [pu_dig_e H _ (by unfold pu_cl; omega) (by unfold pu_cl; omega)]
    exact (H.2.2.1.2.2 q hq).1
  · by_cases e : c = pu_t a
    · rw [e, pu_dig_t H]; exact Or.inr rfl
    · rw [pu_dig_e H _ (by omega) (by omega)]
      exact H.2.2.2.1.2.1 c hc
  · by_cases e : pu_found a = true
    · exact pu_is_of (x := 2) (by rw [pu_dig_6, if_pos e]; rfl) (by decide) (by decide)
    · exact pu_is_cong (by rw [pu_dig_6, if_neg e]) H.2.2.2.1.2.2.2.1
  · rw [pu_dig_e H _ (by omega) (by omega)]
    obtain ⟨l, t, r, o, -, -, -, -, -, -, -, -, z⟩ := H.2.1.2.2 k hk
    exact z
theorem pu_dig_dug (H : pu_WF a w h nb nc) {c : Nat} (hc : c < w * h) : pu_dug (pu_aDig a) c = (decide (c = pu_t a) || pu_dug a c) := by
  have h400 := pu_wfm_le H.1
  unfold pu_dug
  by_cases e : c = pu_t a
  · rw [e, pu_dig_t H, decide_eq_true rfl, decide_eq_true rfl]; rfl
  · rw [pu_dig_e H _ (by omega) (by omega), decide_eq_false e, Bool.false_or]
theorem pu_cdig (I : pu_IC σ w h nb nc a cn hist len buf err) : pu_wp (tw_P_X11_dig σ) (fun r => r.1 = pu_oDig a ∧ pu_IC r.2 w h nb nc (pu_aDig a) (min (cn + 1) 8) (pu_push cn hist a) len buf err ∧ pu_fr pu_fC σ r.2) := by
  obtain ⟨H, C, -⟩ := id I
  obtain ⟨-, -, w1, w2, h1, h2⟩ := id H.1
  have h400 := pu_wfm_le H.1
  have ht : pu_t a < w * h := (pu_team H).2.1
  unfold tw_P_X11_dig
  refine pu_bd (pu_ickeep I) (fun s hs => ?_)
  obtain ⟨J, s2⟩ := hs
  have hf : pu_fr pu_fC σ s := pu_fr_mono s2 (fun k hk => by unfold pu_F4 at hk; unfold pu_fC; omega)
  obtain ⟨-, j2, -⟩ := id J
  have hteam : s 1 10 = Int32.ofNat (pu_sp w (pu_t a)) := pu_cteam H j2.1
  rw [hteam]
  have hdug : pu_set s (4 + 1) w (w * h) (pu_dug a) := j2.1.2.2.1
  refine pu_bde (pu_hasS pu_kd4 w2 h2 ht hdug) ?_
  have hsp := pu_sp_rng w2 h2 ht
  have c12 : s 1 12 = a 6 := j2.1.1.2.2.2.2.1
  have c11 : s 1 11 = a 5 := j2.1.1.2.2.2.1
  have hused : ∀ q, q < nc → s 16 q = a (pu_cl q) := fun q hq => (j2.1.2.2.2.2.2 q hq).1
  have hcl : ∀ q, q < nc → pu_aDig a (pu_cl q) = a (pu_cl q) := fun q hq => by
    have hnc := H.2.2.1.2.1
    exact pu_dig_e H _ (by unfold pu_cl; omega) (by unfold pu_cl; omega)
  refine pu_if (fun c1 => ?_) (fun c1 => ?_)
  rotate_left
  · rw [pu_b1_0] at c1
    have c1 := pu_bF c1
    have hnf : ¬ pu_found a = true := fun z => by unfold pu_found at z; rw [c1, Bool.not_true, Bool.false_and, Bool.false_and] at z; cases z
    refine pu_some ⟨?_, ?_, hf⟩
    · unfold pu_oDig; rw [if_pos c1]
    · show pu_IC s w h nb nc (pu_aDig a) (min (cn + 1) 8) (pu_push cn hist a) len buf err
      refine pu_icchg J (pu_dig_ag H) (pu_dig_WF H) (fun k _ _ _ _ => rfl) (fun i _ => rfl) ?_ ?_ ?_ (fun z => ?_) ?_ (fun q hq => ?_)
      · rw [pu_tm_of (c := pu_t a) (by omega) ((pu_dig_e H 4 (by omega) (by decide)).trans (pu_team H).1)]
        exact hteam
      · rw [pu_dig_e H 5 (by omega) (by decide)]; exact c11
      · rw [pu_dig_6, if_neg hnf]; exact c12
      · rw [pu_dig_6, if_neg hnf] at z
        rw [pu_v_cong (pu_dig_e H 7 (by omega) (by decide))]
        exact j2.1.1.2.2.2.2.2.2.2 z
      · refine pu_set_ext hdug (fun d hd => ?_)
        rw [pu_dig_dug H hd]
        by_cases e : d = pu_t a
        · rw [e, c1, Bool.or_true]
        · rw [decide_eq_false e, Bool.false_or]
      · rw [hcl q hq]; exact hused q hq
  rw [pu_b1_0] at c1
  have hod : ¬ pu_dug a (pu_t a) = true := by rw [c1]; decide
  refine pu_bde (pu_add_eq pu_kd4 (by omega)) ?_
  have hset : pu_set (pu_addb s (4 + 1) (pu_sp w (pu_t a))) 5 w (w * h) (pu_dug (pu_aDig a)) := pu_set_ext (pu_set_add w2 h2 hdug ht) (fun d hd => (pu_dig_dug H hd).symm)
  have g : ∀ k, k ≠ 5 → pu_addb s (4 + 1) (pu_sp w (pu_t a)) k = s k := fun k hk => pu_addb_n hk
  have hf2 : pu_fr pu_fC σ (pu_addb s (4 + 1) (pu_sp w (pu_t a))) := pu_fr_trans hf (pu_fr_up (by unfold pu_fC; omega))
  generalize pu_addb s (4 + 1) (pu_sp w (pu_t a)) = t at hset g hf2 ⊢
  have e4 : pu_eS w (pu_tm (pu_aDig a)) = Int32.ofNat (pu_sp w (pu_t a)) := by
    rw [pu_tm_of (c := pu_t a) (by omega) ((pu_dig_e H 4 (by omega) (by decide)).trans (pu_team H).1)]
    rfl
  refine pu_jn (R := fun _ => ¬ pu_found a = true) (fun u hu => ?_) (fun f hf' => ?_)
  · have hu : ¬ pu_found a = true := hu
    refine pu_some ⟨?_, ?_, hf2⟩
    · unfold pu_oDig; rw [if_neg hod, if_neg hu]
    · show pu_IC t w h nb nc (pu_aDig a) (min (cn + 1) 8) (pu_push cn hist a) len buf err
      refine pu_icchg J (pu_dig_ag H) (pu_dig_WF H) (fun k _ h5 _ _ => g k h5) (fun i _ => by rw [g 1 (by decide)]) ?_ ?_ ?_ (fun z => ?_) hset (fun q hq => ?_)
      · rw [g 1 (by decide), e4]; exact hteam
      · rw [g 1 (by decide), pu_dig_e H 5 (by omega) (by decide)]; exact c11
      · rw [g 1 (by decide), pu_dig_6, if_neg hu]; exact c12
      · rw [pu_dig_6, if_neg hu] at z
        rw [g 1 (by decide), pu_v_cong (pu_dig_e H 7 (by omega) (by decide))]
        exact j2.1.1.2.2.2.2.2.2.2 z
      · rw [g 16 (by decide), hcl q hq]; exact hused q hq
  have t1 : t 1 = s 1 := g 1 (by decide)
  refine pu_if (fun c2 => ?_) (fun c2 => ?_)
  · rw [t1, c12] at c2
    refine hf' () (fun z => ?_)
    unfold pu_found at z
    rw [decide_eq_false c2, Bool.and_false, Bool.false_and] at z
    cases z
  have c2 := Classical.not_not.mp c2
  rw [t1, c12] at c2
  have h13 := j2.1.1.2.2.2.2.2.2.2 c2
  have h13 : s 1 13 = Int32.ofNat (pu_sp w (pu_v a 7)) := h13
  obtain ⟨-, h7⟩ := H.2.2.2.1.2.2.2.2
  have hsp7 := pu_sp_rng w2 h2 h7
  refine pu_if (fun c3 => ?_) (fun c3 => ?_)
  · rw [t1, h13, hteam, pu_eq (by omega) (by omega)] at c3
    have c3 := pu_sp_inj w2 h7 ht c3
    have hfd : pu_found a = true := by
      unfold pu_found
      rw [c1, decide_eq_true c2, decide_eq_true c3]
      rfl
    refine pu_lt (pu_some ⟨?_, ?_, pu_fr_trans hf2 (pu_fr_up (by unfold pu_fC; omega))⟩)
    · unfold pu_oDig; rw [if_neg hod, if_pos hfd]
    · have k1 : ∀ i, i ≠ 12 → tw_up t 1 12 2 1 i = s 1 i := fun i hi => by rw [tw_up_s, t1]; exact if_neg hi
      show pu_IC (tw_up t 1 12 2) w h nb nc (pu_aDig a) (min (cn + 1) 8) (pu_push cn hist a) len buf err
      refine pu_icchg J (pu_dig_ag H) (pu_dig_WF H) (fun k h1 h5 _ _ => (tw_up_n h1).trans (g k h5)) (fun i hi => k1 i (by omega)) ?_ ?_ ?_ (fun z => ?_) (pu_set_cong hset (tw_up_n (by decide))) (fun q hq => ?_)
      · rw [k1 10 (by decide), e4]; exact hteam
      · rw [k1 11 (by decide), pu_dig_e H 5 (by omega) (by decide)]; exact c11
      · rw [pu_dig_6, if_pos hfd, tw_up_s]; exact if_pos rfl
      · rw [pu_dig_6, if_pos hfd] at z
        exact absurd z (by decide)
      · rw [tw_up_n (by decide), g 16 (by decide), hcl q hq]; exact hused q hq
  · rw [t1, h13, hteam, pu_eq (by omega) (by omega)] at c3
    refine hf' () (fun z => ?_)
    unfold pu_found at z
    rw [decide_eq_false (p := pu_v a 7 = pu_t a) (fun e => c3 (by rw [e])), Bool.and_false] at z
    cases z
end CHG3
