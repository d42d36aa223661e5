/-! state, the number of parts put in; part of the class -/
noncomputable def pu_np (a : Nat → Int32) (w h nb nc : Nat) : Nat := (pu_parts (pu_left a w h nb nc) w h (w * h)).2
theorem pu_RP_FQ {σ s : tw_Sg} {a : Nat → Int32} {w h nb nc : Nat} (hP : pu_RP σ a w h nb nc s) : s 442 0 = σ 442 0 ∧ (∀ i, i ≠ 0 → i ≠ 22 → s 442 i = σ 442 i) ∧ pu_fr pu_FQ σ s := ⟨hP.2.1 0 (by decide), fun i _ h22 => hP.2.1 i h22, pu_fr_mono hP.2.2 (fun k hk => by unfold pu_FL pu_F11 pu_F10 pu_F9 at hk; unfold pu_FQ; omega)⟩
theorem pu_cstateP {σ : tw_Sg} {a : Nat → Int32} {w h nb nc n : Nat} {x : Int32} (H : pu_WF a w h nb nc) (C : pu_CC σ a w h nb nc) (hn : 1000 < n) : pu_wp (tw_P_L_state n x σ) (pu_QC σ (pu_oState a w h nb nc (pu_np a w h nb nc) x)) := pu_cstate H C (by omega) (pu_ccountParts H C hn)
noncomputable def pu_oPart (a : Nat → Int32) (w h nb nc : Nat) (x y : Int32) : Int32 ⊕ Int32 := match pu_cellOf w h x y with
  | none => .inr 1
  | some c => .inl (Int32.ofNat (pu_psz (pu_left a w h nb nc) w h c))
theorem pu_cpart {σ : tw_Sg} {a : Nat → Int32} {w h nb nc n : Nat} {x y : Int32} (H : pu_WF a w h nb nc) (C : pu_CC σ a w h nb nc) (hn : 1000 < n) : pu_wp (tw_P_L_part n x y σ) (pu_QC σ (pu_oPart a w h nb nc x y)) := by
  obtain ⟨dw, dh, dn⟩ := pu_CCdim H C
  obtain ⟨-, -, w1, w2, h1, h2⟩ := id H.1
  have hcs := pu_checkedSpot (x := x) (y := y) dw dh w2 h2
  unfold tw_P_L_part
  cases e : pu_cellOf w h x y with
  | none =>
    rw [e] at hcs
    have ho : pu_oPart a w h nb nc x y = .inr 1 := by unfold pu_oPart; rw [e]
    refine pu_bcr (s := "java/lang/IndexOutOfBoundsException") (by unfold tw_P_X11_part; rw [hcs]; rfl) ?_
    exact pu_ift rfl (pu_some (pu_fault ho))
  | some c =>
    rw [e] at hcs
    have hc := pu_cellOf_lt e
    have ho : pu_oPart a w h nb nc x y = .inl (Int32.ofNat (pu_psz (pu_left a w h nb nc) w h c)) := by unfold pu_oPart; rw [e]
    refine pu_bcw (R := fun r => ∃ v s, r = .inl (v, s) ∧ pu_oPart a w h nb nc x y = .inl v ∧ pu_fr pu_SQ σ s) ?_ (fun v hv => ?_) (fun s hs => ?_)
    · unfold tw_P_X11_part
      refine pu_bxl hcs (pu_bd (pu_cpartSize H C hc hn) (fun r hr => ?_))
      exact pu_some ⟨_, _, rfl, by rw [ho, hr.1], hr.2⟩
    · obtain ⟨u, s, z, ho, hf⟩ := hv
      cases z
      exact pu_tell ho hf
    · obtain ⟨u, s, z, -⟩ := hs
      cases z
/-! what a search comes to: the cells that can be reached -/
def pu_rch (g : Nat → Bool) (w h s x : Nat) : Prop := ∀ P : Nat → Prop, P s → (∀ c c' b, P c → b < 8 → pu_nbr g w h c b = some c' → P c') → P x
theorem pu_rch_refl {g : Nat → Bool} {w h s : Nat} : pu_rch g w h s s := fun _ h0 _ => h0
theorem pu_rch_step {g : Nat → Bool} {w h s c c' b : Nat} (hr : pu_rch g w h s c) (hb : b < 8) (hn : pu_nbr g w h c b = some c') : pu_rch g w h s c' := fun P h0 hs => hs c c' b (hr P h0 hs) hb hn
/-- all that the search has newly seen can be reached -/
theorem pu_vis_rch {g : Nat → Bool} {w h c b s : Nat} {st : pu_St} {d0 : Nat → Int} (hb : b < 8) (hc : pu_rch g w h s c) (H : ∀ x, 0 ≤ st.1 x → 0 ≤ d0 x ∨ pu_rch g w h s x) : ∀ x, 0 ≤ (pu_vis g w h st c b).1 x → 0 ≤ d0 x ∨ pu_rch g w h s x := by
  intro x hx
  unfold pu_vis at hx
  cases en : pu_nbr g w h c b with
  | none => rw [en] at hx; exact H x hx
  | some c' =>
    rw [en] at hx
    dsimp only [] at hx
    by_cases hn : st.1 c' < 0
    · rw [if_pos hn] at hx
      by_cases e : x = c'
      · subst e; exact Or.inr (pu_rch_step hc hb en)
      · dsimp only [] at hx
        rw [va_up_ne _ _ e] at hx
        exact H x hx
    · rw [if_neg hn] at hx
      exact H x hx
theorem pu_visN_rch {g : Nat → Bool} {w h c s : Nat} {st : pu_St} {d0 : Nat → Int} (hc : pu_rch g w h s c) (H : ∀ x, 0 ≤ st.1 x → 0 ≤ d0 x ∨ pu_rch g w h s x) : ∀ b, b ≤ 8 → ∀ x, 0 ≤ (pu_visN g w h st c b).1 x → 0 ≤ d0 x ∨ pu_rch g w h s x
  | 0, _ => H
  | b + 1, hb => pu_vis_rch (by omega) hc (pu_visN_rch hc H b (by omega))
/-- all neighbours of a cell that was looked at have been seen -/
theorem pu_visN_all {g : Nat → Bool} {w h c : Nat} {st : pu_St} (hc : 0 ≤ st.1 c) : ∀ k b, b < k → ∀ c', pu_nbr g w h c b = some c' → 0 ≤ (pu_visN g w h st c k).1 c'
  | 0, _, hb => absurd hb (Nat.not_lt_zero _)
  | k + 1, b, hb => fun c' en => by
    have hck : 0 ≤ (pu_visN g w h st c k).1 c := pu_visN_up hc k c hc
    by_cases e : b = k
    · subst e
      show 0 ≤ (pu_vis g w h (pu_visN g w h st c b) c b).1 c'
      unfold pu_vis
      rw [en]
      dsimp only []
      by_cases hn : (pu_visN g w h st c b).1 c' < 0
      · rw [if_pos hn]
        dsimp only []
        rw [va_up_self]
        omega
      · rw [if_neg hn]
        omega
    · exact pu_vis_up hck c' (pu_visN_all hc k b (by omega) c' en)
