/-! questions: distance, chestIsLeft, reached -/
theorem pu_team {a : Nat → Int32} {w h nb nc : Nat} (H : pu_WF a w h nb nc) : a 4 = Int32.ofNat (pu_v a 4) ∧ pu_v a 4 < w * h ∧ pu_tm a = some (pu_v a 4) := by
  obtain ⟨h1, h2⟩ := H.2.2.2.2
  have hle := pu_wfm_le H.1
  refine ⟨h1, h2, ?_⟩
  unfold pu_tm
  rw [if_neg]
  rw [h1]
  exact pu_nm1 (by omega)
theorem pu_cteam {σ : tw_Sg} {a : Nat → Int32} {w h nb nc : Nat} (H : pu_WF a w h nb nc) (C : pu_CD (pu_bk σ 1) a w h nb nc) : σ 1 10 = Int32.ofNat (pu_sp w (pu_v a 4)) := by
  have e := C.1.2.2.2.2.2.2.1
  rw [(pu_team H).2.2] at e
  exact e
theorem pu_l137 : tw_ln (136 + 1) = 704 := by decide +kernel
def pu_D (a : Nat → Int32) (w h : Nat) (c : Nat) : Int := (pu_far (pu_land a) w h (pu_v a 4)).1 c
theorem pu_D_rng {a : Nat → Int32} {w h nb nc c : Nat} (H : pu_WF a w h nb nc) (hc : c < w * h) : -1 ≤ pu_D a w h c ∧ pu_D a w h c ≤ 400 := by
  obtain ⟨c0, hB⟩ := pu_far_BI (g := pu_land a) H.1.2.2.2.1 H.1.2.2.2.2.2 (pu_team H).2.1
  exact hB.2.2 c hc
/-- the class's distances from where the team stands -/
theorem pu_cfar {σ : tw_Sg} {a : Nat → Int32} {w h nb nc n : Nat} (H : pu_WF a w h nb nc) (C : pu_CC σ a w h nb nc) (hn : 800 < n) : pu_wp (tw_P_X8_distancesFrom n (σ 1 10) σ) (fun r => r.1 = 136 ∧ (∀ c, c < w * h → tw_P_X7_get 136 (Int32.ofNat (pu_sp w c)) r.2 = some (Int32.ofInt (pu_D a w h c))) ∧ pu_fr pu_F2 σ r.2) := by
  rw [pu_cteam H C.1]
  refine pu_cons (pu_cdist H.1.2.2.2.1 H.1.2.2.2.2.2 hn (pu_team H).2.1 C.1.2.1) (fun r hr => ?_)
  obtain ⟨r1, r2, r3⟩ := hr
  refine ⟨r1, fun c hc => ?_, r3⟩
  have := pu_sp_rng H.1.2.2.2.1 H.1.2.2.2.2.2 hc
  rw [pu_get (N := 704) pu_l137 (by decide) (by omega)]
  exact congrArg some (r2.1 c hc)
theorem pu_F2_SQ {σ σ' : tw_Sg} (h : pu_fr pu_F2 σ σ') : pu_fr pu_SQ σ σ' := pu_fr_mono h (fun k hk => by unfold pu_F2 at hk; unfold pu_SQ; omega)
theorem pu_F3_FQ {σ σ' : tw_Sg} (h : pu_fr pu_F3 σ σ') : pu_fr pu_FQ σ σ' := pu_fr_mono h (fun k hk => by unfold pu_F3 at hk; unfold pu_FQ; omega)
def pu_oDist (a : Nat → Int32) (w h : Nat) (x y : Int32) : Int32 ⊕ Int32 := match pu_cellOf w h x y with
  | none => .inr 1
  | some c => .inl (Int32.ofInt (pu_D a w h c))
theorem pu_cdistance {σ : tw_Sg} {a : Nat → Int32} {w h nb nc n : Nat} {x y : Int32} (H : pu_WF a w h nb nc) (C : pu_CC σ a w h nb nc) (hn : 800 < n) : pu_wp (tw_P_L_distance n x y σ) (pu_QC σ (pu_oDist a w h x y)) := by
  obtain ⟨dw, dh, dn⟩ := pu_CCdim H C
  obtain ⟨-, -, w1, w2, h1, h2⟩ := id H.1
  have hcs := pu_checkedSpot (x := x) (y := y) dw dh w2 h2
  unfold tw_P_L_distance
  cases e : pu_cellOf w h x y with
  | none =>
    rw [e] at hcs
    have ho : pu_oDist a w h x y = .inr 1 := by unfold pu_oDist; rw [e]
    refine pu_bcr (s := "java/lang/IndexOutOfBoundsException") (by unfold tw_P_X11_distance; rw [hcs]; rfl) ?_
    exact pu_ift rfl (pu_some (pu_fault ho))
  | some c =>
    rw [e] at hcs
    have hc := pu_cellOf_lt e
    refine pu_bcw (R := fun r => ∃ v s, r = .inl (v, s) ∧ pu_oDist a w h x y = .inl v ∧ pu_fr pu_SQ σ s) ?_ (fun v hv => ?_) (fun s hs => ?_)
    · unfold tw_P_X11_distance
      refine pu_bxl hcs (pu_lt (pu_bd (pu_cfar H C hn) (fun r hr => ?_)))
      obtain ⟨r1, r2, r3⟩ := hr
      refine pu_ck (by rw [r1]; rfl) (pu_bde (r2 c hc) (pu_some ⟨_, _, rfl, ?_, pu_F2_SQ r3⟩))
      unfold pu_oDist; rw [e]
    · obtain ⟨u, s, z, ho, hf⟩ := hv
      cases z
      exact pu_tell ho hf
    · obtain ⟨u, s, z, -⟩ := hs
      cases z
/-! chestIsLeft -/
noncomputable def pu_oChest (a : Nat → Int32) (w h nb nc : Nat) : Int32 := pu_b1 (decide (a 6 = 1) && pu_left a w h nb nc (pu_v a 7))
theorem pu_chestLt {a : Nat → Int32} {w h nb nc : Nat} (H : pu_WF a w h nb nc) : a 7 = Int32.ofNat (pu_v a 7) ∧ pu_v a 7 < w * h := H.2.2.2.1.2.2.2.2
theorem pu_cchest {σ : tw_Sg} {a : Nat → Int32} {w h nb nc n : Nat} (H : pu_WF a w h nb nc) (C : pu_CC σ a w h nb nc) (hn : 30 < n) : pu_wp (tw_P_X11_chestIsLeft n σ) (fun r => r.1 = pu_oChest a w h nb nc ∧ pu_fr pu_SQ σ r.2) := by
  obtain ⟨-, -, w1, w2, h1, h2⟩ := id H.1
  have e12 : σ 1 12 = a 6 := C.1.1.2.2.2.2.1
  have e13 : a 6 = 1 → σ 1 13 = Int32.ofNat (pu_sp w (pu_v a 7)) := C.1.1.2.2.2.2.2.2.2
  obtain ⟨-, hc⟩ := pu_chestLt H
  unfold tw_P_X11_chestIsLeft
  refine pu_jn (R := fun s => s.1 = pu_oChest a w h nb nc ∧ pu_fr pu_SQ σ s.2) (fun s hs => ?_) (fun f hf => ?_)
  · exact pu_ck (by rw [hs.1]; exact pu_b1_01) (pu_some hs)
  · refine pu_jn (R := fun s => pu_oChest a w h nb nc = 0 ∧ pu_fr pu_SQ σ s) (fun s hs => hf _ ⟨hs.1.symm, hs.2⟩) (fun g hg => ?_)
    refine pu_if (fun c1 => ?_) (fun c1 => ?_)
    · rw [e12] at c1
      refine hg _ ⟨?_, pu_fr_refl⟩
      unfold pu_oChest
      rw [decide_eq_false c1]; rfl
    · rw [e12] at c1
      have c1 := Classical.not_not.mp c1
      have hO : pu_oChest a w h nb nc = pu_b1 (pu_left a w h nb nc (pu_v a 7)) := by unfold pu_oChest; rw [decide_eq_true c1, Bool.true_and]
      refine pu_bd (pu_cleft H.1 H.2.1.2.1 H.2.2.1 C.1 C.2.1 hn) (fun r hr => ?_)
      obtain ⟨r1, r2, r3⟩ := hr
      refine pu_ck (by rw [r1]; rfl) ?_
      have hF : pu_fr pu_SQ σ r.2 := pu_fr_mono r3 (fun k hk => by unfold pu_SQ; omega)
      rw [r3 1 (by decide), e13 c1]
      refine pu_bde (pu_hasS (th := 140) pu_kd140 w2 h2 hc r2) (pu_if (fun c2 => ?_) (fun c2 => ?_))
      · exact hg _ ⟨hO.trans c2, hF⟩
      · rw [pu_b1_0] at c2
        exact hf _ ⟨by rw [hO, pu_bF c2]; rfl, hF⟩
/-! reached -/
noncomputable def pu_oReached (a : Nat → Int32) (w h nb nc : Nat) (q l : Int32) : Int32 ⊕ Int32 := match pu_clueOf nc q with
  | none => .inr 1
  | some k => if 0 ≤ l.toInt ∧ l.toInt ≤ pu_nl a k then .inl (Int32.ofNat (pu_sum (fun d => pu_B (pu_Fw a w h nb k l.toNatClampNeg d)) (w * h))) else .inr 2
theorem pu_creached {σ : tw_Sg} {a : Nat → Int32} {w h nb nc n : Nat} {q l : Int32} (H : pu_WF a w h nb nc) (C : pu_CC σ a w h nb nc) (hn : 30 < n) : pu_wp (tw_P_L_reached n q l σ) (pu_QC σ (pu_oReached a w h nb nc q l)) := by
  obtain ⟨dw, dh, dn⟩ := pu_CCdim H C
  obtain ⟨-, -, w1, w2, h1, h2⟩ := id H.1
  have hcq := pu_checkClue (x := q) dn H.2.2.1.2.1
  unfold tw_P_L_reached
  cases eq : pu_clueOf nc q with
  | none =>
    rw [eq] at hcq
    have ho : pu_oReached a w h nb nc q l = .inr 1 := by unfold pu_oReached; rw [eq]
    refine pu_bcr (s := "java/lang/IndexOutOfBoundsException") (by unfold tw_P_X11_reached; rw [hcq]; rfl) ?_
    exact pu_ift rfl (pu_some (pu_fault ho))
  | some k =>
    rw [eq] at hcq
    obtain ⟨rfl, hk⟩ := pu_clueOf_some eq
    obtain ⟨-, -, ⟨enl, hnl⟩, -⟩ := H.2.2.1.2.2 k hk
    have hnl : pu_nl a k < 9 := hnl
    have h4 := H.2.2.1.2.1
    have enl : a (pu_cl k + 2) = Int32.ofNat (pu_nl a k) := enl
    have e22 : σ (21 + 1) k = Int32.ofNat (pu_nl a k) := ((C.1.2.2.2.2.2 k hk).2.2.1).trans enl
    refine pu_bcw (R := fun r => (r = .inr "java/lang/IllegalArgumentException" ∧ pu_oReached a w h nb nc (Int32.ofNat k) l = .inr 2) ∨ ∃ v, r = .inl v ∧ pu_oReached a w h nb nc (Int32.ofNat k) l = .inl v) ?_ (fun v hv => ?_) (fun s hs => ?_)
    · unfold tw_P_X11_reached
      refine pu_bxl hcq (pu_jn0 (pu_if (fun c1 => ?_) (fun c1 => ?_)))
      · refine pu_some (Or.inl ⟨rfl, ?_⟩)
        rw [Int32.lt_iff_toInt_lt, pu_toInt0] at c1
        unfold pu_oReached
        rw [eq]
        exact if_neg (by omega)
      · rw [Int32.lt_iff_toInt_lt, pu_toInt0] at c1
        refine pu_bde (pu_get (th := 21) (i := k) (N := 4) (by decide +kernel) (by decide) (by omega)) ?_
        rw [e22]
        obtain ⟨b1, b2, b3⟩ := pu_back (x := l) (by omega)
        refine pu_if (fun c2 => ?_) (fun c2 => ?_)
        · rw [Int32.le_iff_toInt_le, pu_toInt (show pu_nl a k < 2147483648 by omega)] at c2
          have ho : pu_oReached a w h nb nc (Int32.ofNat k) l = .inl (Int32.ofNat (pu_sum (fun d => pu_B (pu_Fw a w h nb k l.toNatClampNeg d)) (w * h))) := by
            unfold pu_oReached
            rw [eq]
            exact if_pos ⟨by omega, c2⟩
          generalize l.toNatClampNeg = j at b1 b2 b3 ho
          subst b1
          obtain ⟨l1, l2⟩ := pu_layer (σ := σ) (q := k) (l := j) (by omega) (by omega)
          refine pu_bde l1 (pu_ck (by rw [l2]; rfl) ?_)
          refine pu_bde (pu_ccount l2 w2 h2 (pu_regS H C hk (by omega)).2 hn) (pu_some (Or.inr ⟨_, rfl, ho⟩))
        · rw [Int32.le_iff_toInt_le, pu_toInt (show pu_nl a k < 2147483648 by omega)] at c2
          refine pu_some (Or.inl ⟨rfl, ?_⟩)
          unfold pu_oReached
          rw [eq]
          exact if_neg (by omega)
    · rcases hv with ⟨z, -⟩ | ⟨u, z, ho⟩
      · cases z
      · cases z
        exact pu_tell ho pu_fr_refl
    · rcases hs with ⟨z, ho⟩ | ⟨u, z, -⟩
      · cases z
        exact pu_iff (by decide) (pu_ift rfl (pu_some (pu_fault ho)))
      · cases z
