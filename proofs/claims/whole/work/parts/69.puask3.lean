/-! questions: distance, chestIsLeft, reached -/
theorem pu_team {a : Nat → Int32} {w h nb nc : Nat} (H : pu_WF a w h nb nc) : a 4 = Int32.ofNat (pu_v a 4) ∧ pu_v a 4 < w * h ∧ pu_tm a = some (pu_v a 4) := by
  obtain ⟨h1, h2⟩ := H.2.2.2.2
  have hle := pu_wfm_le H.1
  refine ⟨h1, h2, ?_⟩
  unfold pu_tm
  rw [if_neg]
  rw [h1]
  exact pu_nm1 (by omega)
theorem pu_cteam {σ : tw_Sg} {a : Nat → Int32} {w h nb nc : Nat} (H : pu_WF a w h nb nc) (C : pu_CD (pu_bk σ 1) a w h nb nc) : σ 1 10 = Int32.ofNat (pu_sp w (pu_v a 4)) := by
  have e := C.1.2.2.2.2.2.2.1
  rw [(pu_team H).2.2] at e
  exact e
theorem pu_l137 : tw_ln (136 + 1) = 704 := by decide +kernel
def pu_D (a : Nat → Int32) (w h : Nat) (c : Nat) : Int := (pu_far (pu_land a) w h (pu_v a 4)).1 c
theorem pu_D_rng {a : Nat → Int32} {w h nb nc c : Nat} (H : pu_WF a w h nb nc) (hc : c < w * h) : -1 ≤ pu_D a w h c ∧ pu_D a w h c ≤ 400 := by
  obtain ⟨c0, hB⟩ := pu_far_BI (g := pu_land a) H.1.2.2.2.1 H.1.2.2.2.2.2 (pu_team H).2.1
  exact hB.2.2 c hc
/-- the class's distances from where the team stands -/
theorem pu_cfar {σ : tw_Sg} {a : Nat → Int32} {w h nb nc n : Nat} (H : pu_WF a w h nb nc) (C : pu_CC σ a w h nb nc) (hn : 800 < n) : pu_wp (tw_P_X8_distancesFrom n (σ 1 10) σ) (fun r => r.1 = 136 ∧ (∀ c, c < w * h → tw_P_X7_get 136 (Int32.ofNat (pu_sp w c)) r.2 = some (Int32.ofInt (pu_D a w h c))) ∧ pu_fr pu_F2 σ r.2) := by
  rw [pu_cteam H C.1]
  refine pu_cons (pu_cdist H.1.2.2.2.1 H.1.2.2.2.2.2 hn (pu_team H).2.1 C.1.2.1) (fun r hr => ?_)
  obtain ⟨r1, r2, r3⟩ := hr
  refine ⟨r1, fun c hc => ?_, r3⟩
  have := pu_sp_rng H.1.2.2.2.1 H.1.2.2.2.2.2 hc
  rw [pu_get (N := 704) pu_l137 (by decide) (by omega)]
  exact congrArg some (r2.1 c hc)
theorem pu_F2_SQ {σ σ' : tw_Sg} (h : pu_fr pu_F2 σ σ') : pu_fr pu_SQ σ σ' := pu_fr_mono h (fun k hk => by unfold pu_F2 at hk; unfold pu_SQ; omega)
/-- the reference's -/
theorem pu_rfarT {σ : tw_Sg} {a : Nat → Int32} {w h nb nc n : Nat} (H : pu_WF a w h nb nc) (hL : pu_RL σ a w h nb nc) (hn : 500 < n) : pu_wp (tw_P_X12_layFar n (σ 444 (Int32.toNatClampNeg (4 : Int32))) σ) (fun σ' => (∀ c, c < w * h → σ' 508 c = Int32.ofInt (pu_D a w h c)) ∧ pu_RL σ' a w h nb nc ∧ σ' 442 = σ 442 ∧ pu_fr pu_F3 σ σ') := by
  have e4 : σ 444 (Int32.toNatClampNeg (4 : Int32)) = Int32.ofNat (pu_v a 4) := by rw [hL.1]; exact (pu_team H).1
  rw [e4]
  refine pu_cons (pu_rfar (σ := σ) (w := w) (h := h) (by rw [hL.1]; exact H.1) (pu_team H).2.1 hn) (fun σ' h' => ?_)
  obtain ⟨r1, r2⟩ := h'
  rw [hL.1] at r1
  have e44 : σ' 444 = σ 444 := r2 444 (by unfold pu_F3; omega)
  have e42 : σ' 442 = σ 442 := r2 442 (by unfold pu_F3; omega)
  refine ⟨r1.1, ⟨e44.trans hL.1, ?_⟩, e42, r2⟩
  rw [e42]
  rcases hL.2 with z | ⟨z1, z2⟩
  · exact Or.inl z
  · have h4 := H.2.2.1.2.1
    refine Or.inr ⟨z1, fun q hq l hl => pu_es_cong (z2 q hq l hl) (r2 _ ?_)⟩
    have h2 : pu_nl a q < 9 := (H.2.2.1.2.2 q hq).2.2.1.2
    unfold pu_F3 pu_En; omega
theorem pu_F3_FQ {σ σ' : tw_Sg} (h : pu_fr pu_F3 σ σ') : pu_fr pu_FQ σ σ' := pu_fr_mono h (fun k hk => by unfold pu_F3 at hk; unfold pu_FQ; omega)
def pu_oDist (a : Nat → Int32) (w h : Nat) (x y : Int32) : Int32 ⊕ Int32 := match pu_cellOf w h x y with
  | none => .inr 1
  | some c => .inl (Int32.ofInt (pu_D a w h c))
theorem pu_cdistance {σ : tw_Sg} {a : Nat → Int32} {w h nb nc n : Nat} {x y : Int32} (H : pu_WF a w h nb nc) (C : pu_CC σ a w h nb nc) (hn : 800 < n) : pu_wp (tw_P_L_distance n x y σ) (pu_QC σ (pu_oDist a w h x y)) := by
  obtain ⟨dw, dh, dn⟩ := pu_CCdim H C
  obtain ⟨-, -, w1, w2, h1, h2⟩ := id H.1
  have hcs := pu_checkedSpot (x := x) (y := y) dw dh w2 h2
  unfold tw_P_L_distance
  cases e : pu_cellOf w h x y with
  | none =>
    rw [e] at hcs
    have ho : pu_oDist a w h x y = .inr 1 := by unfold pu_oDist; rw [e]
    refine pu_bcr (s := "java/lang/IndexOutOfBoundsException") (by unfold tw_P_X11_distance; rw [hcs]; rfl) ?_
    exact pu_ift rfl (pu_some (pu_fault ho))
  | some c =>
    rw [e] at hcs
    have hc := pu_cellOf_lt e
    refine pu_bcw (R := fun r => ∃ v s, r = .inl (v, s) ∧ pu_oDist a w h x y = .inl v ∧ pu_fr pu_SQ σ s) ?_ (fun v hv => ?_) (fun s hs => ?_)
    · unfold tw_P_X11_distance
      refine pu_bxl hcs (pu_lt (pu_bd (pu_cfar H C hn) (fun r hr => ?_)))
      obtain ⟨r1, r2, r3⟩ := hr
      refine pu_ck (by rw [r1]; rfl) (pu_bde (r2 c hc) (pu_some ⟨_, _, rfl, ?_, pu_F2_SQ r3⟩))
      unfold pu_oDist; rw [e]
    · obtain ⟨u, s, z, ho, hf⟩ := hv
      cases z
      exact pu_tell ho hf
    · obtain ⟨u, s, z, -⟩ := hs
      cases z
theorem pu_rdistance {σ : tw_Sg} {a : Nat → Int32} {w h nb nc n : Nat} {x y : Int32} (H : pu_WF a w h nb nc) (hL : pu_RL σ a w h nb nc) (hn : 1000 < n) : pu_wp (tw_P_X12_distance n x y σ) (pu_QR σ a w h nb nc (pu_oDist a w h x y)) := by
  unfold tw_P_X12_distance
  refine pu_ropenG hL (fun σ1 h0 hL1 hi1 hf1 => ?_)
  have hm1 : pu_wfm (σ1 444) w h := by rw [hL1.1]; exact H.1
  have hm400 := pu_wfm_le H.1
  cases e : pu_cellOf w h x y with
  | none =>
    refine pu_bde (pu_noCell_n hm1 h0 e) ?_
    have ho : pu_oDist a w h x y = .inr 1 := by unfold pu_oDist; rw [e]
    exact pu_iff pu_10 (pu_some (pu_rfault ho hL1 hi1 hf1))
  | some c =>
    have hc := pu_cellOf_lt e
    have ho : pu_oDist a w h x y = .inl (Int32.ofInt (pu_D a w h c)) := by unfold pu_oDist; rw [e]
    refine pu_bde (pu_noCell_s hm1 h0 e) (pu_ift rfl (pu_ck (by rw [pu_l444]; decide) ?_))
    refine pu_bd (pu_rfarT H hL1 (by omega)) (fun σ2 h2 => ?_)
    obtain ⟨g1, g2, g3, g4⟩ := h2
    refine pu_bde (pu_cellAt (by rw [g2.1]; exact H.1) e) ?_
    rw [pu_l508]
    refine pu_ck (pu_ok (by omega) (by omega)) ?_
    rw [pu_n (show c < 2147483648 by omega), g1 c hc]
    exact pu_some (pu_rsay ho (by rw [g3]; exact h0) g2 (fun i z1 z2 => by rw [g3]; exact hi1 i z1 z2) (pu_fr_trans hf1 (pu_F3_FQ g4)))
/-! chestIsLeft -/
noncomputable def pu_oChest (a : Nat → Int32) (w h nb nc : Nat) : Int32 := pu_b1 (decide (a 6 = 1) && pu_left a w h nb nc (pu_v a 7))
theorem pu_chestLt {a : Nat → Int32} {w h nb nc : Nat} (H : pu_WF a w h nb nc) : a 7 = Int32.ofNat (pu_v a 7) ∧ pu_v a 7 < w * h := H.2.2.2.1.2.2.2.2
theorem pu_cchest {σ : tw_Sg} {a : Nat → Int32} {w h nb nc n : Nat} (H : pu_WF a w h nb nc) (C : pu_CC σ a w h nb nc) (hn : 30 < n) : pu_wp (tw_P_X11_chestIsLeft n σ) (fun r => r.1 = pu_oChest a w h nb nc ∧ pu_fr pu_SQ σ r.2) := by
  obtain ⟨-, -, w1, w2, h1, h2⟩ := id H.1
  have e12 : σ 1 12 = a 6 := C.1.1.2.2.2.2.1
  have e13 : a 6 = 1 → σ 1 13 = Int32.ofNat (pu_sp w (pu_v a 7)) := C.1.1.2.2.2.2.2.2.2
  obtain ⟨-, hc⟩ := pu_chestLt H
  unfold tw_P_X11_chestIsLeft
  refine pu_jn (R := fun s => s.1 = pu_oChest a w h nb nc ∧ pu_fr pu_SQ σ s.2) (fun s hs => ?_) (fun f hf => ?_)
  · exact pu_ck (by rw [hs.1]; exact pu_b1_01) (pu_some hs)
  · refine pu_jn (R := fun s => pu_oChest a w h nb nc = 0 ∧ pu_fr pu_SQ σ s) (fun s hs => hf _ ⟨hs.1.symm, hs.2⟩) (fun g hg => ?_)
    refine pu_if (fun c1 => ?_) (fun c1 => ?_)
    · rw [e12] at c1
      refine hg _ ⟨?_, pu_fr_refl⟩
      unfold pu_oChest
      rw [decide_eq_false c1]; rfl
    · rw [e12] at c1
      have c1 := Classical.not_not.mp c1
      have hO : pu_oChest a w h nb nc = pu_b1 (pu_left a w h nb nc (pu_v a 7)) := by unfold pu_oChest; rw [decide_eq_true c1, Bool.true_and]
      refine pu_bd (pu_cleft H.1 H.2.1.2.1 H.2.2.1 C.1 C.2.1 hn) (fun r hr => ?_)
      obtain ⟨r1, r2, r3⟩ := hr
      refine pu_ck (by rw [r1]; rfl) ?_
      have hF : pu_fr pu_SQ σ r.2 := pu_fr_mono r3 (fun k hk => by unfold pu_SQ; omega)
      rw [r3 1 (by decide), e13 c1]
      refine pu_bde (pu_hasS (th := 140) pu_kd140 w2 h2 hc r2) (pu_if (fun c2 => ?_) (fun c2 => ?_))
      · exact hg _ ⟨hO.trans c2, hF⟩
      · rw [pu_b1_0] at c2
        exact hf _ ⟨by rw [hO, pu_bF c2]; rfl, hF⟩
theorem pu_rchest {σ : tw_Sg} {a : Nat → Int32} {w h nb nc n : Nat} (H : pu_WF a w h nb nc) (hL : pu_RL σ a w h nb nc) (hn : 1000 < n) : pu_wp (tw_P_X12_chestIsLeft n σ) (pu_QR σ a w h nb nc (.inl (pu_oChest a w h nb nc))) := by
  obtain ⟨e7, hc⟩ := pu_chestLt H
  have hm400 := pu_wfm_le H.1
  unfold tw_P_X12_chestIsLeft
  refine pu_ropenG hL (fun σ1 h0 hL1 hi1 hf1 => ?_)
  refine pu_ck (by rw [pu_l444]; decide) ?_
  refine pu_jn (R := fun s => pu_QR σ a w h nb nc (.inl (pu_oChest a w h nb nc)) s) (fun s hs => ?_) (fun f hf => ?_)
  · exact pu_ck (by rw [hs.2.1 _ rfl]; exact pu_b1_01) (pu_some hs)
  · refine pu_jn (R := fun s => pu_QR σ a w h nb nc (.inl (pu_oChest a w h nb nc)) (0, s)) (fun s hs => hf _ hs) (fun g hg => ?_)
    have e6 : σ1 444 (Int32.toNatClampNeg (6 : Int32)) = a 6 := by rw [hL1.1]; rfl
    have e77 : σ1 444 (Int32.toNatClampNeg (7 : Int32)) = Int32.ofNat (pu_v a 7) := by rw [hL1.1]; exact e7
    refine pu_if (fun c1 => ?_) (fun c1 => ?_)
    · rw [e6] at c1
      refine hg _ (pu_rsay ?_ h0 hL1 hi1 hf1)
      unfold pu_oChest
      rw [decide_eq_false c1]; rfl
    · rw [e6] at c1
      have c1 := Classical.not_not.mp c1
      have hO : pu_oChest a w h nb nc = pu_b1 (pu_left a w h nb nc (pu_v a 7)) := by unfold pu_oChest; rw [decide_eq_true c1, Bool.true_and]
      rw [e77]
      refine pu_ck (by rw [pu_l444]; decide) (pu_bd (pu_rleft H hL1 hc hn) (fun r hr => ?_))
      obtain ⟨r1, r2, r3⟩ := hr
      obtain ⟨q1, q2, q3⟩ := pu_RS_FQ r3
      refine pu_if (fun c2 => ?_) (fun c2 => ?_)
      · rw [r1] at c2
        exact hg _ (pu_rsay (by rw [hO, c2]) (q2.trans h0) r2 (fun i z1 z2 => (q1 i z1 z2).trans (hi1 i z1 z2)) (pu_fr_trans hf1 q3))
      · rw [r1, pu_b1_0] at c2
        exact hf _ (pu_rsay (by rw [hO, pu_bF c2]; rfl) (q2.trans h0) r2 (fun i z1 z2 => (q1 i z1 z2).trans (hi1 i z1 z2)) (pu_fr_trans hf1 q3))
/-! reached -/
noncomputable def pu_oReached (a : Nat → Int32) (w h nb nc : Nat) (q l : Int32) : Int32 ⊕ Int32 := match pu_clueOf nc q with
  | none => .inr 1
  | some k => if 0 ≤ l.toInt ∧ l.toInt ≤ pu_nl a k then .inl (Int32.ofNat (pu_sum (fun d => pu_B (pu_Fw a w h nb k l.toNatClampNeg d)) (w * h))) else .inr 2
theorem pu_creached {σ : tw_Sg} {a : Nat → Int32} {w h nb nc n : Nat} {q l : Int32} (H : pu_WF a w h nb nc) (C : pu_CC σ a w h nb nc) (hn : 30 < n) : pu_wp (tw_P_L_reached n q l σ) (pu_QC σ (pu_oReached a w h nb nc q l)) := by
  obtain ⟨dw, dh, dn⟩ := pu_CCdim H C
  obtain ⟨-, -, w1, w2, h1, h2⟩ := id H.1
  have hcq := pu_checkClue (x := q) dn H.2.2.1.2.1
  unfold tw_P_L_reached
  cases eq : pu_clueOf nc q with
  | none =>
    rw [eq] at hcq
    have ho : pu_oReached a w h nb nc q l = .inr 1 := by unfold pu_oReached; rw [eq]
    refine pu_bcr (s := "java/lang/IndexOutOfBoundsException") (by unfold tw_P_X11_reached; rw [hcq]; rfl) ?_
    exact pu_ift rfl (pu_some (pu_fault ho))
  | some k =>
    rw [eq] at hcq
    obtain ⟨rfl, hk⟩ := pu_clueOf_some eq
    obtain ⟨-, -, ⟨enl, hnl⟩, -⟩ := H.2.2.1.2.2 k hk
    have hnl : pu_nl a k < 9 := hnl
    have h4 := H.2.2.1.2.1
    have enl : a (pu_cl k + 2) = Int32.ofNat (pu_nl a k) := enl
    have e22 : σ (21 + 1) k = Int32.ofNat (pu_nl a k) := ((C.1.2.2.2.2.2 k hk).2.2.1).trans enl
    refine pu_bcw (R := fun r => (r = .inr "java/lang/IllegalArgumentException" ∧ pu_oReached a w h nb nc (Int32.ofNat k) l = .inr 2) ∨ ∃ v, r = .inl v ∧ pu_oReached a w h nb nc (Int32.ofNat k) l = .inl v) ?_ (fun v hv => ?_) (fun s hs => ?_)
    · unfold tw_P_X11_reached
      refine pu_bxl hcq (pu_jn0 (pu_if (fun c1 => ?_) (fun c1 => ?_)))
      · refine pu_some (Or.inl ⟨rfl, ?_⟩)
        rw [Int32.lt_iff_toInt_lt, pu_toInt0] at c1
        unfold pu_oReached
        rw [eq]
        exact if_neg (by omega)
      · rw [Int32.lt_iff_toInt_lt, pu_toInt0] at c1
        refine pu_bde (pu_get (th := 21) (i := k) (N := 4) (by decide +kernel) (by decide) (by omega)) ?_
        rw [e22]
        obtain ⟨b1, b2, b3⟩ := pu_back (x := l) (by omega)
        refine pu_if (fun c2 => ?_) (fun c2 => ?_)
        · rw [Int32.le_iff_toInt_le, pu_toInt (show pu_nl a k < 2147483648 by omega)] at c2
          have ho : pu_oReached a w h nb nc (Int32.ofNat k) l = .inl (Int32.ofNat (pu_sum (fun d => pu_B (pu_Fw a w h nb k l.toNatClampNeg d)) (w * h))) := by
            unfold pu_oReached
            rw [eq]
            exact if_pos ⟨by omega, c2⟩
          generalize l.toNatClampNeg = j at b1 b2 b3 ho
          subst b1
          obtain ⟨l1, l2⟩ := pu_layer (σ := σ) (q := k) (l := j) (by omega) (by omega)
          refine pu_bde l1 (pu_ck (by rw [l2]; rfl) ?_)
          refine pu_bde (pu_ccount l2 w2 h2 (pu_regS H C hk (by omega)).2 hn) (pu_some (Or.inr ⟨_, rfl, ho⟩))
        · rw [Int32.le_iff_toInt_le, pu_toInt (show pu_nl a k < 2147483648 by omega)] at c2
          refine pu_some (Or.inl ⟨rfl, ?_⟩)
          unfold pu_oReached
          rw [eq]
          exact if_neg (by omega)
    · rcases hv with ⟨z, -⟩ | ⟨u, z, ho⟩
      · cases z
      · cases z
        exact pu_tell ho pu_fr_refl
    · rcases hs with ⟨z, ho⟩ | ⟨u, z, -⟩
      · cases z
        exact pu_iff (by decide) (pu_ift rfl (pu_some (pu_fault ho)))
      · cases z
theorem pu_reachedBy {σ : tw_Sg} {a : Nat → Int32} {w h nb nc q l n : Nat} (H : pu_WF a w h nb nc) (hR : pu_RL σ a w h nb nc) (hq : q < nc) (hl : l ≤ pu_nl a q) (hn : 1000 < n) : pu_wp (tw_P_X12_reachedBy n (Int32.ofNat q) (Int32.ofNat l) σ) (fun r => r.1 = Int32.ofNat (pu_sum (fun d => pu_B (pu_Fw a w h nb q l d)) (w * h)) ∧ pu_RL r.2 a w h nb nc ∧ pu_RS σ r.2) := by
  have hle := pu_wfm_le H.1
  have h4 := H.2.2.1.2.1
  have hnl : pu_nl a q < 9 := (H.2.2.1.2.2 q hq).2.2.1.2
  unfold tw_P_X12_reachedBy
  refine pu_bd (pu_RL_lay H hR hn) (fun σ1 h1 => ?_)
  obtain ⟨-, hE, hL, hS⟩ := h1
  refine pu_lt (pu_lt ?_)
  rw [pu_n (show q < 2147483648 by omega), pu_n (show l < 2147483648 by omega), pu_l457, pu_lE9 (by omega), show 457 + 1 + 10 * q + 1 + 1 * l = pu_En q l from by unfold pu_En; omega, pu_lE (by omega) (by omega)]
  refine pu_lp (J := fun s => ∃ c, c ≤ w * h ∧ s.2 = Int32.ofNat c ∧ s.1 = Int32.ofNat (pu_sum (fun d => pu_B (pu_Fw a w h nb q l d)) c)) (m := fun s => w * h - s.2.toNatClampNeg) ?_ n _ (by show w * h - _ < n; omega) ⟨0, by omega, rfl, rfl⟩
  rintro k5 ⟨tt, cc⟩ ⟨c, hc, e1, e2⟩ hk5
  dsimp only [] at e1 e2
  subst e1; subst e2
  dsimp only []
  refine pu_bde (pu_rcells (σ := σ1) (w := w) (h := h) (by rw [hL.1]; exact H.1)) ?_
  refine pu_if (fun hc1 => ?_) (fun hc1 => ?_)
  · have hc1 := (pu_le (by omega) (by omega)).mp hc1
    have : c = w * h := by omega
    subst this
    exact pu_some (r := (_, σ1)) ⟨rfl, hL, hS⟩
  · have hc1 : c < w * h := by rw [pu_le (by omega) (by omega)] at hc1; omega
    refine pu_ck (pu_ok (by omega) (by omega)) (pu_ck (pu_ok (by omega) (by omega)) (pu_ck (pu_ok (by omega) (by omega)) ?_))
    rw [pu_n (show c < 2147483648 by omega), hE q hq l hl c hc1]
    refine pu_jn (R := fun v => v = pu_bi (pu_Fw a w h nb q l c)) (fun v hv => ?_) (fun f hf => ?_)
    · subst hv
      refine pu_lt (pu_lt ?_)
      have em : Int32.ofNat c + (1 : Int32) = Int32.ofNat (c + 1) := pu_add c 1
      have et : Int32.ofNat (pu_sum (fun d => pu_B (pu_Fw a w h nb q l d)) c) + pu_bi (pu_Fw a w h nb q l c) = Int32.ofNat (pu_sum (fun d => pu_B (pu_Fw a w h nb q l d)) (c + 1)) := by
        rw [pu_bi_b1, pu_sum_S]
        cases pu_B (pu_Fw a w h nb q l c)
        · exact pu_add _ 0
        · exact pu_add _ 1
      rw [em, et]
      refine hk5 _ ⟨c + 1, by omega, rfl, rfl⟩ ?_
      show w * h - (Int32.ofNat (c + 1)).toNatClampNeg < w * h - (Int32.ofNat c).toNatClampNeg
      rw [pu_n (by omega), pu_n (by omega)]
      omega
    · refine pu_if (fun c2 => hf _ c2.symm) (fun c2 => hf _ ?_)
      rw [pu_bi_b1, pu_b1_0] at c2
      rw [pu_bi_b1, pu_bF c2]; rfl
theorem pu_rreached {σ : tw_Sg} {a : Nat → Int32} {w h nb nc n : Nat} {q l : Int32} (H : pu_WF a w h nb nc) (hL : pu_RL σ a w h nb nc) (hn : 1000 < n) : pu_wp (tw_P_X12_reached n q l σ) (pu_QR σ a w h nb nc (pu_oReached a w h nb nc q l)) := by
  unfold tw_P_X12_reached
  refine pu_ropenG hL (fun σ1 h0 hL1 hi1 hf1 => ?_)
  have e3 : σ1 444 3 = Int32.ofNat nc := by rw [hL1.1]; exact H.2.2.1.1
  cases eq : pu_clueOf nc q with
  | none =>
    refine pu_bde (pu_noClue_n e3 H.2.2.1.2.1 h0 eq) ?_
    have ho : pu_oReached a w h nb nc q l = .inr 1 := by unfold pu_oReached; rw [eq]
    exact pu_jn0 (pu_jn0 (pu_ift pu_10 (pu_some (pu_rfault ho hL1 hi1 hf1))))
  | some k =>
    obtain ⟨rfl, hk⟩ := pu_clueOf_some eq
    have hnl : pu_nl a k < 9 := (H.2.2.1.2.2 k hk).2.2.1.2
    refine pu_bde (pu_noClue_s e3 H.2.2.1.2.1 h0 eq) ?_
    refine pu_jn0 (pu_jn0 (pu_iff (fun z => z rfl) ?_))
    have hlg := pu_legs (σ := σ1) (w := w) (h := h) (nc := nc) (q := k) (by rw [hL1.1]; exact H.2.2.1) hk
    rw [hL1.1] at hlg
    refine pu_bde hlg (pu_bde pu_in_eq ?_)
    rw [pu_toInt0, pu_toInt (show pu_nl a k < 2147483648 by omega)]
    refine pu_jn0 (pu_if (fun c1 => ?_) (fun c1 => ?_))
    · have c1 : 0 ≤ l.toInt ∧ l.toInt ≤ pu_nl a k := Classical.byContradiction fun z => c1 (if_neg z)
      refine pu_bde (pu_fails0 h0) (pu_ift rfl ?_)
      obtain ⟨b1, b2, b3⟩ := pu_back (x := l) c1.1
      have ho : pu_oReached a w h nb nc (Int32.ofNat k) l = .inl (Int32.ofNat (pu_sum (fun d => pu_B (pu_Fw a w h nb k l.toNatClampNeg d)) (w * h))) := by
        unfold pu_oReached
        rw [eq]
        exact if_pos c1
      have hr := pu_reachedBy (l := l.toNatClampNeg) H hL1 hk (by omega) hn
      rw [← b1] at hr
      refine pu_bd hr (fun r hr => ?_)
      obtain ⟨r1, r2, r3⟩ := hr
      obtain ⟨q1, q2, q3⟩ := pu_RS_FQ r3
      exact pu_some (pu_rsay (by rw [ho, r1]) (q2.trans h0) r2 (fun i z1 z2 => (q1 i z1 z2).trans (hi1 i z1 z2)) (pu_fr_trans hf1 q3))
    · have c1 : ¬ (0 ≤ l.toInt ∧ l.toInt ≤ pu_nl a k) := fun z => c1 (by rw [if_pos z]; decide)
      have ho : pu_oReached a w h nb nc (Int32.ofNat k) l = .inr 2 := by unfold pu_oReached; rw [eq]; exact if_neg c1
      refine pu_bde (pu_fails1 h0 (by decide)) ?_
      exact pu_iff pu_10 (pu_some (pu_rfault ho hL1 hi1 hf1))
