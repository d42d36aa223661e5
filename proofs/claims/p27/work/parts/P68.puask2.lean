/-! questions: cell, ends, distance, chestIsLeft, reached -/
theorem pu_ropenG {σ : tw_Sg} {a : Nat → Int32} {w h nb nc : Nat} {ρ : Type} {Q : ρ → Prop} {K : tw_Sg → Option ρ} (hL : pu_RL σ a w h nb nc) (k : ∀ s : tw_Sg, s 442 0 = 0 → pu_RL s a w h nb nc → (∀ i, i ≠ 0 → i ≠ 22 → s 442 i = σ 442 i) → pu_fr pu_FQ σ s → pu_wp (K s) Q) : pu_wp (tw_lt (tw_up σ 442 0 (0 : Int32)) K) Q := by
  obtain ⟨h0, hL1, hi1, hf1⟩ := pu_ropen hL
  exact k _ h0 hL1 hi1 hf1
theorem pu_rsay {σ σ1 : tw_Sg} {a : Nat → Int32} {w h nb nc : Nat} {o : Int32 ⊕ Int32} {v : Int32} (ho : o = .inl v) (h0 : σ1 442 0 = 0) (hL : pu_RL σ1 a w h nb nc) (hi : ∀ i, i ≠ 0 → i ≠ 22 → σ1 442 i = σ 442 i) (hf : pu_fr pu_FQ σ σ1) : pu_QR σ a w h nb nc o (v, σ1) := by
  subst ho
  exact ⟨h0, fun u hu => (by cases hu; rfl), hL, hi, hf⟩
theorem pu_bF {b : Bool} (h : ¬ b = false) : b = true := by cases b; exact absurd rfl h; rfl
/-! cell -/
noncomputable def pu_oCell (a : Nat → Int32) (w h nb nc : Nat) (x y : Int32) : Int32 ⊕ Int32 := match pu_cellOf w h x y with
  | none => .inr 1
  | some c => .inl (if pu_land a c = false then 0 else (if pu_cand a w h nb nc c = false then 1 else 3) + pu_b1 (pu_dug a c))
theorem pu_ccell {σ : tw_Sg} {a : Nat → Int32} {w h nb nc n : Nat} {x y : Int32} (H : pu_WF a w h nb nc) (C : pu_CC σ a w h nb nc) (hn : 30 < n) : pu_wp (tw_P_L_cell n x y σ) (pu_QC σ (pu_oCell a w h nb nc x y)) := by
  obtain ⟨dw, dh, dn⟩ := pu_CCdim H C
  obtain ⟨-, -, w1, w2, h1, h2⟩ := id H.1
  have hcs := pu_checkedSpot (x := x) (y := y) dw dh w2 h2
  unfold tw_P_L_cell
  cases e : pu_cellOf w h x y with
  | none =>
    rw [e] at hcs
    have ho : pu_oCell a w h nb nc x y = .inr 1 := by unfold pu_oCell; rw [e]
    refine pu_bcr (s := "java/lang/IndexOutOfBoundsException") (by unfold tw_P_X11_cell; rw [hcs]; rfl) ?_
    exact pu_ift rfl (pu_some (pu_fault ho))
  | some c =>
    rw [e] at hcs
    have hc := pu_cellOf_lt e
    have hO : pu_oCell a w h nb nc x y = .inl (if pu_land a c = false then 0 else (if pu_cand a w h nb nc c = false then 1 else 3) + pu_b1 (pu_dug a c)) := by unfold pu_oCell; rw [e]
    refine pu_bcw (R := fun r => ∃ v s, r = .inl (v, s) ∧ pu_oCell a w h nb nc x y = .inl v ∧ pu_fr pu_SQ σ s) ?_ (fun v hv => ?_) (fun s hs => ?_)
    · unfold tw_P_X11_cell
      refine pu_bxl hcs (pu_lt ?_)
      refine pu_bde (pu_hasS (th := 2) pu_kd2 w2 h2 hc C.1.2.1) ?_
      refine pu_if (fun c1 => ?_) (fun c1 => ?_)
      · rw [pu_b1_0] at c1
        refine pu_bde (pu_hasS (th := 4) pu_kd4 w2 h2 hc C.1.2.2.1) ?_
        refine pu_jn (R := fun v => v = pu_b1 (pu_dug a c)) (fun v hv => ?_) (fun f hf => ?_)
        · subst hv
          refine pu_lt (pu_bd (pu_candidates H.1 H.2.1.2.1 H.2.2.1 C.1 C.2.1 hn) (fun r8 h8 => ?_))
          obtain ⟨e8, hS, hF⟩ := h8
          refine pu_ck (by rw [e8]; rfl) (pu_bde (pu_hasS (th := 140) pu_kd140 w2 h2 hc hS) ?_)
          have hF2 : pu_fr pu_SQ σ r8.2 := pu_fr_mono hF (fun k hk => by unfold pu_SQ; omega)
          refine pu_jn0 (pu_if (fun c2 => ?_) (fun c2 => ?_))
          · rw [pu_b1_0] at c2
            refine pu_some ⟨_, _, rfl, ?_, hF2⟩
            rw [hO, if_neg c1, if_pos c2]
          · rw [pu_b1_0] at c2
            refine pu_some ⟨_, _, rfl, ?_, hF2⟩
            rw [hO, if_neg c1, if_neg c2]
        · refine pu_if (fun c2 => ?_) (fun c2 => ?_)
          · rw [pu_b1_0] at c2
            exact hf _ (by rw [c2]; rfl)
          · rw [pu_b1_0] at c2
            exact hf _ (by rw [pu_bF c2]; rfl)
      · have c1 := Classical.not_not.mp c1
        rw [pu_b1_0] at c1
        refine pu_some ⟨_, _, rfl, ?_, pu_fr_refl⟩
        rw [hO, if_pos c1]
    · obtain ⟨u, s, z, ho, hf⟩ := hv
      cases z
      exact pu_tell ho hf
    · obtain ⟨u, s, z, -⟩ := hs
      cases z
theorem pu_dugV {a : Nat → Int32} {w h nb nc c : Nat} (H : pu_WF a w h nb nc) (hc : c < w * h) : a (408 + c) = pu_b1 (pu_dug a c) := by
  have hle := pu_wfm_le H.1
  unfold pu_dug
  rcases H.2.2.2.1.2.1 c (by omega) with z | z
  · rw [decide_eq_false (by rw [z]; decide), z]; rfl
  · rw [decide_eq_true z, z]; rfl
/-! ends -/
noncomputable def pu_oEnds (a : Nat → Int32) (w h nb nc : Nat) (q x y : Int32) : Int32 ⊕ Int32 := match pu_clueOf nc q with
  | none => .inr 1
  | some k => match pu_cellOf w h x y with
    | none => .inr 1
    | some c => .inl (pu_bi (pu_Fw a w h nb k (pu_nl a k) c))
theorem pu_bi_b1 {P : Prop} : pu_bi P = pu_b1 (pu_B P) := rfl
theorem pu_regS {σ : tw_Sg} {a : Nat → Int32} {w h nb nc q l : Nat} (H : pu_WF a w h nb nc) (C : pu_CC σ a w h nb nc) (hq : q < nc) (hl : l ≤ pu_nl a q) : tw_kd (40 + 2 * (9 * q + l)) = 0 ∧ pu_set σ (40 + 2 * (9 * q + l) + 1) w (w * h) (fun d => pu_B (pu_Fw a w h nb q l d)) := by
  have h1 := H.2.2.1.2.1
  have h2 : pu_nl a q < 9 := (H.2.2.1.2.2 q hq).2.2.1.2
  refine ⟨(pu_layer (σ := σ) (by omega) (by omega)).2, ?_⟩
  rw [show 40 + 2 * (9 * q + l) + 1 = pu_La q l from by unfold pu_La; omega]
  exact C.2.1 q hq l hl
