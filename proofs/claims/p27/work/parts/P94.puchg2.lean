/-! the class's and the reference's changes: what they leave -/
def pu_KC (σ : tw_Sg) (o : Int32 ⊕ Int32) (I : tw_Sg → Prop) (r : Int32 × tw_Sg) : Prop := r.1 = pu_code o ∧ (∀ v, o = .inl v → r.2 1036 0 = v) ∧ I r.2 ∧ pu_fr pu_fC σ r.2
def pu_KR (σ : tw_Sg) (o : Int32 ⊕ Int32) (I : tw_Sg → Prop) (r : Int32 × tw_Sg) : Prop := r.2 442 0 = pu_code o ∧ (∀ v, o = .inl v → r.1 = v) ∧ I r.2 ∧ pu_fr pu_fR σ r.2
theorem pu_ktell {σ σ1 : tw_Sg} {v : Int32} {o : Int32 ⊕ Int32} {I : tw_Sg → Prop} (ho : o = .inl v) (hI : I σ1) (hst : ∀ s s' : tw_Sg, (∀ k, k ≠ 1036 → s' k = s k) → I s → I s') (hf : pu_fr pu_fC σ σ1) : pu_wp (tw_ck (tw_ok (0 : Int32) (pw_ln 1036)) (tw_lt (tw_up σ1 1036 (Int32.toNatClampNeg (0 : Int32)) v) (fun (s9 : tw_Sg) => some ((0 : Int32), s9)))) (pu_KC σ o I) := by
  subst ho
  rw [pu_l1036]
  refine pu_ck (by decide) (pu_lt (pu_some (r := ((0 : Int32), _)) ⟨rfl, fun u hu => ?_, hst _ _ (fun k hk => tw_up_n hk) hI, pu_fr_trans hf (pu_fr_up (Or.inr rfl))⟩))
  cases hu
  show tw_up σ1 1036 0 v 1036 0 = v
  rw [tw_up_s]
  exact if_pos rfl
theorem pu_kfault {σ : tw_Sg} {k : Int32} {o : Int32 ⊕ Int32} {I : tw_Sg → Prop} (ho : o = .inr k) (hI : I σ) : pu_KC σ o I (k, σ) := by
  subst ho
  exact ⟨rfl, fun u hu => (by cases hu), hI, pu_fr_refl⟩
theorem pu_IC_1036 {w h nb nc cn len : Nat} {a : Nat → Int32} {hist : Nat → Nat → Int32} {buf : Nat → Nat} {err : Int32} (s s' : tw_Sg) (hs : ∀ k, k ≠ 1036 → s' k = s k) (I : pu_IC s w h nb nc a cn hist len buf err) : pu_IC s' w h nb nc a cn hist len buf err := pu_IC_fr I (fun k h1 _ => hs k (by omega))
section CHG2
variable {σ : tw_Sg} {w h nb nc cn len n : Nat} {a : Nat → Int32} {hist : Nat → Nat → Int32} {buf : Nat → Nat} {err : Int32}
/-- the class keeps what it has -/
theorem pu_ickeep (I : pu_IC σ w h nb nc a cn hist len buf err) : pu_wp (tw_P_X4_keep 1 σ) (fun s => pu_IC s w h nb nc a (min (cn + 1) 8) (pu_push cn hist a) len buf err ∧ pu_fr pu_F4 σ s) := by
  obtain ⟨i1, i2, i3, i4, ⟨i5, i6, i7⟩, i8⟩ := I
  have hv : pu_wf a ∧ pu_v a 0 = w ∧ pu_v a 1 = h ∧ pu_v a 2 = nb ∧ pu_v a 3 = nc := by
    have m400 := pu_wfm_le i1.1
    obtain ⟨m1, m2, m3, m4, m5, m6⟩ := i1.1
    have e0 : pu_v a 0 = w := pu_v_of m1 (by omega)
    have e1 : pu_v a 1 = h := pu_v_of m2 (by omega)
    have e2 : pu_v a 2 = nb := pu_v_of i1.2.1.1 (by have := i1.2.1.2.1; omega)
    have e3 : pu_v a 3 = nc := pu_v_of i1.2.2.1.1 (by have := i1.2.2.1.2.1; omega)
    refine ⟨?_, e0, e1, e2, e3⟩
    unfold pu_wf
    rw [e0, e1, e2, e3]
    exact i1
  obtain ⟨hw, e0, e1, e2, e3⟩ := hv
  have hcd : pu_cd (pu_bk σ 1) a := by
    unfold pu_cd
    rw [e0, e1, e2, e3]
    exact i2.1
  refine pu_cons (pu_ckeep i3 i4 hw hcd) (fun s hs => ?_)
  obtain ⟨s1, s2⟩ := hs
  have hlow : ∀ k, k < 142 → s k = σ k := fun k hk => s2 k (by unfold pu_F4; omega)
  refine ⟨⟨i1, pu_CC_fr i1 i2 (fun k hk => hlow k (by omega)), s1, fun i hi => ?_, ⟨?_, i6, fun i hi => ?_⟩, ?_⟩, s2⟩
  · unfold pu_push
    by_cases h8 : cn < 8
    · rw [if_pos h8]
      by_cases e : i = cn
      · rw [if_pos e]; exact hw
      · rw [if_neg e]; exact i4 i (by omega)
    · rw [if_neg h8]
      by_cases e : i = 7
      · rw [if_pos e]; exact hw
      · rw [if_neg e]
        obtain ⟨-, -, -, -, h88, -⟩ := i3
        exact i4 (i + 1) (by omega)
  · rw [s2 400 (by unfold pu_F4; omega)]; exact i5
  · rw [s2 402 (by unfold pu_F4; omega)]; exact i7 i hi
  · rw [hlow 0 (by omega)]; exact i8
/-- a changed row of the reference -/
theorem pu_irset {s s' : tw_Sg} {a' : Nat → Int32} {cn' : Nat} {hist' : Nat → Nat → Int32} (I : pu_IR σ w h nb nc a cn hist len buf err) (h1 : pu_hR s cn' hist') (h22 : s 442 22 = 0) (h42 : ∀ i, i ≠ 11 → i ≠ 22 → s 442 i = σ 442 i) (h43 : s 443 = σ 443) (e44 : s' 444 = a') (hz : ∀ j, 1028 ≤ j → a' j = 0) (hne : ∀ k, k ≠ 444 → s' k = s k) : pu_IR s' w h nb nc a' cn' hist' len buf err := by
  obtain ⟨-, -, ⟨b1, b2⟩, i8⟩ := I
  obtain ⟨g1, g2, g3, g4⟩ := h1
  have e42 : s' 442 = s 442 := hne 442 (by decide)
  refine ⟨⟨e44, Or.inl (by rw [e42]; exact h22)⟩, ⟨by rw [e42]; exact g1, g2, fun i hi => by rw [hne _ (by omega)]; exact g3 i hi, fun r hr j hj => ?_⟩, ⟨by rw [e42, h42 2 (by decide) (by decide)]; exact b1, fun i hi => by rw [hne 443 (by decide), h43]; exact b2 i hi⟩, by rw [e42, h42 7 (by decide) (by decide)]; exact i8⟩
  by_cases e : r = 444
  · rw [e, e44]; exact hz j hj
  · rw [hne r e]; exact g4 r hr j hj
theorem pu_azero (I : pu_IR σ w h nb nc a cn hist len buf err) : ∀ j, 1028 ≤ j → a j = 0 := fun j hj => by
  obtain ⟨⟨r1, -⟩, ⟨-, -, -, hz⟩, -⟩ := I
  rw [← r1]
  exact hz 444 (Or.inl rfl) j hj
/-- a changed Data of the class, the ways as they were -/
theorem pu_icchg {s t : tw_Sg} {a' : Nat → Int32} {cn' : Nat} {hist' : Nat → Nat → Int32} (J : pu_IC s w h nb nc a cn' hist' len buf err) (hA : pu_ag pu_X a a') (H' : pu_WF a' w h nb nc) (g : ∀ k, k ≠ 1 → k ≠ 5 → k ≠ 16 → k < 403 → t k = s k) (g1 : ∀ i, i < 10 → t 1 i = s 1 i) (e10 : t 1 10 = pu_eS w (pu_tm a')) (e11 : t 1 11 = a' 5) (e12 : t 1 12 = a' 6) (e13 : a' 6 = 1 → t 1 13 = Int32.ofNat (pu_sp w (pu_v a' 7))) (hd : pu_set t 5 w (w * h) (pu_dug a')) (hu : ∀ q, q < nc → t 16 q = a' (pu_cl q)) : pu_IC t w h nb nc a' cn' hist' len buf err := by
  obtain ⟨H, j2, j3, j4, j5, j6⟩ := id J
  refine ⟨H', ⟨?_, ?_, ?_⟩, pu_hC_fr j3 j4 (fun k _ _ => g k (by omega) (by omega) (by omega) (by omega)), j4, ⟨by rw [g 400 (by decide) (by decide) (by decide) (by decide)]; exact j5.1, j5.2.1, fun i hi => by rw [g 402 (by decide) (by decide) (by decide) (by decide)]; exact j5.2.2 i hi⟩, by rw [g 0 (by decide) (by decide) (by decide) (by decide)]; exact j6⟩
  · refine pu_chg_CD H (pu_ag_Y hA) j2.1 (fun j i hl h10 h4 h15 _ => ?_) e10 e11 e12 e13 hd hu (fun k hk => ?_)
    · have hl32 := pu_lv_lt hl
      show t (1 + j) i = s (1 + j) i
      by_cases e0 : j = 0
      · subst e0
        exact g1 i (by omega)
      · rw [g _ (by omega) (by omega) (by omega) (by omega)]
    · have hnb := H.2.1.2.1
      show t 13 k = _
      rw [g 13 (by decide) (by decide) (by decide) (by decide), hA _ (pu_nXb (by omega) (by decide))]
      exact (j2.1.2.2.2.2.1 k hk).2.2
  · have hnc := H.2.2.1.2.1
    exact pu_chg_lay hA H (fun q hq l hl => pu_set_cong (j2.2.1 q hq l hl) (g _ (by unfold pu_La; omega) (by unfold pu_La; omega) (by unfold pu_La; omega) (by have h9 : pu_nl a q < 9 := (H.2.2.1.2.2 q hq).2.2.1.2; unfold pu_La; omega)))
  · refine pu_chg_tw hA H (fun d hd => ?_)
    rw [g 35 (by decide) (by decide) (by decide) (by decide)]
    exact j2.2.2 d hd
/-! moveTo -/
def pu_aMove (a : Nat → Int32) (c : Nat) (d : Int) : Nat → Int32 := upd (upd a 4 (Int32.ofNat c)) 5 (a 5 + Int32.ofInt d)
/-- outcome, and whether something changes -/
def pu_oMove (a : Nat → Int32) (w h : Nat) (x y : Int32) : Int32 ⊕ Int32 := match pu_cellOf w h x y with
  | none => .inr 1
  | some c => if 0 ≤ pu_D a w h c then .inl (Int32.ofInt (pu_D a w h c)) else .inl (-1)
def pu_moves (a : Nat → Int32) (w h : Nat) (x y : Int32) : Option Nat := match pu_cellOf w h x y with
  | none => none
  | some c => if 0 ≤ pu_D a w h c then some c else none
theorem pu_is_up {i n x : Nat} (hx : x < n) (hn : n ≤ 2147483648) : pu_is (upd a i (Int32.ofNat x)) i n := pu_is_of (if_pos rfl) hx hn
theorem pu_upd_n {f : Nat → Int32} {i j : Nat} {x : Int32} (h : j ≠ i) : upd f i x j = f j := if_neg h
theorem pu_upd_s {f : Nat → Int32} {i : Nat} {x : Int32} : upd f i x i = x := if_pos rfl
theorem pu_move_ag {c : Nat} {d : Int} : pu_ag pu_X a (pu_aMove a c d) := fun j hj => by
  unfold pu_X at hj
  unfold pu_aMove
  rw [pu_upd_n (by omega), pu_upd_n (by omega)]
theorem pu_move_WF {c : Nat} {d : Int} (H : pu_WF a w h nb nc) (hc : c < w * h) : pu_WF (pu_aMove a c d) w h nb nc := by
  have h400 := pu_wfm_le H.1
  have hnc := H.2.2.1.2.1
  have e : ∀ j, j ≠ 4 → j ≠ 5 → pu_aMove a c d j = a j := fun j h1 h2 => by unfold pu_aMove; rw [pu_upd_n h2, pu_upd_n h1]
  refine pu_chg_WF H (pu_ag_Y pu_move_ag) (fun q hq => ?_) (fun x hx => ?_) (pu_is_cong (e 6 (by decide) (by decide)) H.2.2.2.1.2.2.2.1) (pu_is_cong (e 7 (by decide) (by decide)) H.2.2.2.1.2.2.2.2) (pu_is_of (x := c) ?_ hc (by omega)) (fun k hk => ?_)
  · rw [e _ (by unfold pu_cl; omega) (by unfold pu_cl; omega)]
    exact (H.2.2.1.2.2 q hq).1
  · rw [e _ (by omega) (by omega)]
    exact H.2.2.2.1.2.1 x hx
  · unfold pu_aMove
    rw [pu_upd_n (by decide), pu_upd_s]
  · rw [e _ (by omega) (by omega)]
    obtain ⟨l, t, r, o, -, -, -, -, -, -, -, -, z⟩ := H.2.1.2.2 k hk
    exact z
theorem pu_tm_of {a' : Nat → Int32} {c : Nat} (hc : c < 2147483648) (e : a' 4 = Int32.ofNat c) : pu_tm a' = some c := by
  unfold pu_tm
  rw [if_neg (by rw [e]; exact pu_nm1 hc), pu_v_of e hc]
theorem pu_cmove {x y : Int32} (I : pu_IC σ w h nb nc a cn hist len buf err) (hn : 1000 < n) : pu_wp (tw_P_L_moveTo n x y σ) (pu_KC σ (pu_oMove a w h x y) (fun s => match pu_moves a w h x y with | none => pu_IC s w h nb nc a cn hist len buf err | some c => pu_IC s w h nb nc (pu_aMove a c (pu_D a w h c)) (min (cn + 1) 8) (pu_push cn hist a) len buf err)) := by
  obtain ⟨H, C, -⟩ := id I
  obtain ⟨dw, dh, dn⟩ := pu_CCdim H C
  obtain ⟨-, -, w1, w2, h1, h2⟩ := id H.1
  have h400 := pu_wfm_le H.1
  have hcs := pu_checkedSpot (x := x) (y := y) dw dh w2 h2
  unfold tw_P_L_moveTo
  cases e : pu_cellOf w h x y with
  | none =>
    rw [e] at hcs
    have ho : pu_oMove a w h x y = .inr 1 := by unfold pu_oMove; rw [e]
    have hmv : pu_moves a w h x y = none := by unfold pu_moves; rw [e]
    rw [hmv]
    refine pu_bcr (s := "java/lang/IndexOutOfBoundsException") (by unfold tw_P_X11_moveTo; rw [hcs]; rfl) ?_
    exact pu_ift rfl (pu_some (pu_kfault ho I))
  | some c =>
    rw [e] at hcs
    have hc := pu_cellOf_lt e
    obtain ⟨D1, D2⟩ := pu_D_rng H hc
    by_cases hD : 0 ≤ pu_D a w h c
    rotate_left
    · have ho : pu_oMove a w h x y = .inl (-1) := by unfold pu_oMove; rw [e]; exact if_neg hD
      have hmv : pu_moves a w h x y = none := by unfold pu_moves; rw [e]; exact if_neg hD
      rw [hmv]
      refine pu_bcw (R := fun r => ∃ s, r = .inl ((-1 : Int32), s) ∧ pu_fr pu_SQ σ s) ?_ (fun v hv => ?_) (fun s hs => ?_)
      · unfold tw_P_X11_moveTo
        refine pu_bxl hcs (pu_lt (pu_bd (pu_cfar H C (by omega)) (fun r hr => ?_)))
        obtain ⟨r1, r2, r3⟩ := hr
        refine pu_ck (by rw [r1]; rfl) (pu_bde (r2 c hc) (pu_lt (pu_iff ?_ (pu_some ⟨_, rfl, pu_F2_SQ r3⟩))))
        rw [pu_neg1 D1 D2]
        omega
      · obtain ⟨s, z, hf⟩ := hv
        cases z
        exact pu_ktell ho (pu_IC_SQ I hf) pu_IC_1036 (pu_fr_mono hf (fun k hk => by unfold pu_SQ at hk; unfold pu_fC; omega))
      · obtain ⟨s, z, -⟩ := hs
        cases z
    have ho : pu_oMove a w h x y = .inl (Int32.ofInt (pu_D a w h c)) := by unfold pu_oMove; rw [e]; exact if_pos hD
    have hmv : pu_moves a w h x y = some c := by unfold pu_moves; rw [e]; exact if_pos hD
    rw [hmv]
    refine pu_bcw (R := fun r => ∃ s, r = .inl (Int32.ofInt (pu_D a w h c), s) ∧ pu_IC s w h nb nc (pu_aMove a c (pu_D a w h c)) (min (cn + 1) 8) (pu_push cn hist a) len buf err ∧ pu_fr pu_fC σ s) ?_ (fun v hv => ?_) (fun s hs => ?_)
    · unfold tw_P_X11_moveTo
      refine pu_bxl hcs (pu_lt (pu_bd (pu_cfar H C (by omega)) (fun r hr => ?_)))
      obtain ⟨r1, r2, r3⟩ := hr
      refine pu_ck (by rw [r1]; rfl) (pu_bde (r2 c hc) (pu_lt (pu_ift ?_ ?_)))
      · rw [pu_neg1 D1 D2]
        omega
      refine pu_bd (pu_ickeep (pu_IC_SQ I (pu_F2_SQ r3))) (fun s hs => ?_)
      obtain ⟨J, s2⟩ := hs
      obtain ⟨-, j2, j3, j4, j5, j6⟩ := id J
      refine pu_lt (pu_lt (pu_some ⟨_, rfl, ?_, ?_⟩))
      rotate_left
      · exact pu_fr_trans (pu_fr_mono r3 (fun k hk => by unfold pu_F2 at hk; unfold pu_fC; omega)) (pu_fr_trans (pu_fr_mono s2 (fun k hk => by unfold pu_F4 at hk; unfold pu_fC; omega)) (pu_fr_trans (pu_fr_up (by unfold pu_fC; omega)) (pu_fr_up (by unfold pu_fC; omega))))
      have e11 : tw_up s 1 10 (Int32.ofNat (pu_sp w c)) 1 11 = a 5 := by
        rw [tw_up_s]
        exact (if_neg (by decide)).trans j2.1.1.2.2.2.1
      rw [e11]
      have g : ∀ k, k ≠ 1 → tw_up (tw_up s 1 10 (Int32.ofNat (pu_sp w c))) 1 11 (a 5 + Int32.ofInt (pu_D a w h c)) k = s k := fun k hk => by rw [tw_up_n hk, tw_up_n hk]
      have g1 : ∀ i, i ≠ 10 → i ≠ 11 → tw_up (tw_up s 1 10 (Int32.ofNat (pu_sp w c))) 1 11 (a 5 + Int32.ofInt (pu_D a w h c)) 1 i = s 1 i := fun i h1 h2 => by
        rw [tw_up_s]
        unfold upd
        rw [if_neg h2, tw_up_s]
        exact if_neg h1
      have g10 : tw_up (tw_up s 1 10 (Int32.ofNat (pu_sp w c))) 1 11 (a 5 + Int32.ofInt (pu_D a w h c)) 1 10 = Int32.ofNat (pu_sp w c) := by
        rw [tw_up_s]
        unfold upd
        rw [if_neg (by decide), tw_up_s]
        exact if_pos rfl
      have g11 : tw_up (tw_up s 1 10 (Int32.ofNat (pu_sp w c))) 1 11 (a 5 + Int32.ofInt (pu_D a w h c)) 1 11 = a 5 + Int32.ofInt (pu_D a w h c) := by
        rw [tw_up_s]
        exact if_pos rfl
      generalize tw_up (tw_up s 1 10 (Int32.ofNat (pu_sp w c))) 1 11 (a 5 + Int32.ofInt (pu_D a w h c)) = t at g g1 g10 g11 ⊢
      have ea : ∀ j, j ≠ 4 → j ≠ 5 → pu_aMove a c (pu_D a w h c) j = a j := fun j h1 h2 => by unfold pu_aMove; rw [pu_upd_n h2, pu_upd_n h1]
      have ea4 : pu_aMove a c (pu_D a w h c) 4 = Int32.ofNat c := by unfold pu_aMove; rw [pu_upd_n (by decide), pu_upd_s]
      refine pu_icchg J pu_move_ag (pu_move_WF H hc) (fun k h1 _ _ _ => g k h1) (fun i hi => g1 i (by omega) (by omega)) ?_ ?_ ?_ (fun z => ?_) ?_ (fun q hq => ?_)
      · rw [pu_tm_of (by omega) ea4]
        exact g10
      · rw [g11]
        unfold pu_aMove
        exact pu_upd_s.symm
      · rw [g1 12 (by decide) (by decide), ea 6 (by decide) (by decide)]
        exact j2.1.1.2.2.2.2.1
      · rw [ea 6 (by decide) (by decide)] at z
        rw [g1 13 (by decide) (by decide), pu_v_cong (ea 7 (by decide) (by decide))]
        exact j2.1.1.2.2.2.2.2.2.2 z
      · refine pu_set_ext (pu_set_cong (σ := s) j2.1.2.2.1 (g 5 (by decide))) (fun d hd => ?_)
        unfold pu_dug
        rw [ea _ (by omega) (by omega)]
      · rw [g 16 (by decide), ea _ (by unfold pu_cl; omega) (by unfold pu_cl; omega)]
        exact (j2.1.2.2.2.2.2 q hq).1
    · obtain ⟨s, z, hI, hf⟩ := hv
      have z := Sum.inl.inj z
      subst z
      exact pu_ktell ho hI pu_IC_1036 hf
    · obtain ⟨s, z, -⟩ := hs
      cases z
end CHG2
