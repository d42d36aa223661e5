/-! parts: the class counts them -/
def pu_pstep (g : Nat → Bool) (w h : Nat) (s : (Nat → Int) × Nat) (c : Nat) : (Nat → Int) × Nat := if g c = true ∧ s.1 c < 0 then ((pu_bf g w h (pu_st0 s.1 c) 400).1, s.2 + 1) else s
def pu_parts (g : Nat → Bool) (w h : Nat) : Nat → (Nat → Int) × Nat
  | 0 => (fun _ => -1, 0)
  | m + 1 => pu_pstep g w h (pu_parts g w h m) m
theorem pu_parts_0 {g : Nat → Bool} {w h : Nat} : pu_parts g w h 0 = (fun _ => -1, 0) := rfl
theorem pu_parts_S {g : Nat → Bool} {w h m : Nat} : pu_parts g w h (m + 1) = pu_pstep g w h (pu_parts g w h m) m := rfl
theorem pu_parts_rng {g : Nat → Bool} {w h : Nat} (hw : w ≤ 20) (hh : h ≤ 20) : ∀ m, m ≤ w * h → (∀ c, c < w * h → -1 ≤ (pu_parts g w h m).1 c ∧ (pu_parts g w h m).1 c ≤ 400) ∧ (pu_parts g w h m).2 ≤ m
  | 0, _ => by
    rw [pu_parts_0]
    exact ⟨fun _ _ => ⟨Int.le_refl (-1), (by decide : (-1 : Int) ≤ 400)⟩, Nat.le_refl _⟩
  | m + 1, hm => by
    obtain ⟨ih1, ih2⟩ := pu_parts_rng (g := g) hw hh m (by omega)
    rw [pu_parts_S]
    unfold pu_pstep
    by_cases hc : g m = true ∧ (pu_parts g w h m).1 m < 0
    · rw [if_pos hc]
      obtain ⟨-, -, hB⟩ := pu_bf_BI (g := g) hw hh (pu_st0_BI (m := w * h) (s := m) (d0 := (pu_parts g w h m).1) (by omega) hc.2 ih1) 400
      dsimp only []
      generalize pu_bf g w h (pu_st0 (pu_parts g w h m).1 m) 400 = B at hB ⊢
      exact ⟨hB, by omega⟩
    · rw [if_neg hc]
      exact ⟨ih1, by omega⟩
theorem pu_ccountParts {σ : tw_Sg} {a : Nat → Int32} {w h nb nc n : Nat} (H : pu_WF a w h nb nc) (C : pu_CC σ a w h nb nc) (hn : 1000 < n) : pu_wp (tw_P_X8_countParts n σ) (fun r => r.1 = Int32.ofNat (pu_parts (pu_left a w h nb nc) w h (w * h)).2 ∧ pu_fr pu_SQ σ r.2) := by
  obtain ⟨-, -, w1, w2, h1, h2⟩ := id H.1
  have hm400 := pu_wfm_le H.1
  unfold tw_P_X8_countParts
  refine pu_bd (pu_cleft H.1 H.2.1.2.1 H.2.2.1 C.1 C.2.1 (by omega)) (fun r1 hr1 => ?_)
  obtain ⟨x1, x2, x3⟩ := hr1
  refine pu_ck (by rw [x1]; rfl) ?_
  refine pu_bde (a := pu_fill r1.2 137 (-1)) ?_ ?_
  · dsimp only [tw_P_X3_clear]
    rw [pu_rfill (by rw [pu_l137]; decide) (by rw [pu_l137]; omega)]
    rfl
  refine pu_lt (pu_lt ?_)
  refine pu_lp (J := fun s => ∃ i k, i ≤ 704 ∧ s.2.1 = Int32.ofNat i ∧ pu_at w (w * h) i k ∧ s.1 = Int32.ofNat (pu_parts (pu_left a w h nb nc) w h k).2 ∧ (∀ c, c < w * h → s.2.2 137 (pu_sp w c) = Int32.ofInt ((pu_parts (pu_left a w h nb nc) w h k).1 c)) ∧ pu_set s.2.2 (140 + 1) w (w * h) (pu_left a w h nb nc) ∧ pu_fr pu_SQ σ s.2.2) (m := fun s => 704 - s.2.1.toNatClampNeg) ?_ n _ (by show 704 - _ < n; omega) ⟨0, 0, by omega, rfl, pu_at0, rfl, fun c hc => ?_, pu_set_cong x2 (pu_fill_n (A := 137) (k := 140 + 1) (x := -1) (by decide)), pu_fr_trans (pu_fr_mono x3 (fun k hk => by unfold pu_SQ; omega)) (pu_fr_upA (by unfold pu_SQ; omega))⟩
  rotate_left
  · have := pu_sp_rng w2 h2 hc
    show pu_fill r1.2 137 (-1) 137 (pu_sp w c) = _
    rw [pu_fill_s (by rw [show tw_ln 137 = 704 from pu_l137]; omega)]
    rfl
  rintro k7 ⟨tt, ii, σ1⟩ ⟨i, k, hi, e1, hA, e2, hD, hS, hF⟩ hk7
  dsimp only [] at e1 e2 hD hS hF
  subst e1; subst e2
  dsimp only []
  refine pu_if (fun c1 => ?_) (fun c1 => ?_)
  · have c1 := (pu_le (a := 704) (by omega) (by omega)).mp c1
    have : i = 704 := by omega
    subst this
    rw [pu_at_end w2 h2 hA]
    exact pu_some (r := (_, σ1)) ⟨rfl, hF⟩
  · have c1 : i < 704 := Nat.lt_of_not_le (fun z => c1 ((pu_le (a := 704) (b := i) (by omega) (by omega)).mpr z))
    have em : Int32.ofNat i + (1 : Int32) = Int32.ofNat (i + 1) := pu_add i 1
    refine pu_bde (pu_has pu_kd140 c1) ?_
    refine pu_jn (R := fun v => ∃ k', pu_at w (w * h) (i + 1) k' ∧ v.1 = Int32.ofNat (pu_parts (pu_left a w h nb nc) w h k').2 ∧ (∀ c, c < w * h → v.2 137 (pu_sp w c) = Int32.ofInt ((pu_parts (pu_left a w h nb nc) w h k').1 c)) ∧ pu_set v.2 (140 + 1) w (w * h) (pu_left a w h nb nc) ∧ pu_fr pu_SQ σ v.2) (fun v hv => ?_) (fun f hf => ?_)
    · obtain ⟨k', z1, z2, z3, z4, z5⟩ := hv
      refine pu_lt ?_
      rw [em]
      refine hk7 _ ⟨i + 1, k', by omega, rfl, z1, z2, z3, z4, z5⟩ ?_
      show 704 - (Int32.ofNat (i + 1)).toNatClampNeg < 704 - (Int32.ofNat i).toNatClampNeg
      rw [pu_n (by omega), pu_n (by omega)]
      omega
    · rcases pu_at_step w2 hA with ⟨hk, es, hA'⟩ | ⟨hno, hA'⟩
      · have hbt : pu_bt σ1 (140 + 1) i = pu_left a w h nb nc k := by rw [es]; exact hS.1 k hk
        obtain ⟨D0, D3⟩ := pu_parts_rng (g := pu_left a w h nb nc) w2 h2 k (by omega)
        obtain ⟨D1, D2⟩ := D0 k hk
        have hsk : ¬ (pu_left a w h nb nc k = true ∧ (pu_parts (pu_left a w h nb nc) w h k).1 k < 0) → pu_parts (pu_left a w h nb nc) w h (k + 1) = pu_parts (pu_left a w h nb nc) w h k := fun z => by rw [pu_parts_S]; exact if_neg z
        rw [hbt]
        refine pu_if (fun c2 => ?_) (fun c2 => ?_)
        · have c2 : pu_b1 (pu_left a w h nb nc k) = 0 := c2
          rw [pu_b1_0] at c2
          have e := hsk (fun z => by rw [c2] at z; exact absurd z.1 (by decide))
          exact hf _ ⟨k + 1, hA', by rw [e], by rw [e]; exact hD, hS, hF⟩
        · have c2 : ¬ pu_b1 (pu_left a w h nb nc k) = 0 := c2
          rw [pu_b1_0] at c2
          refine pu_bde (pu_get (th := 136) (i := i) (N := 704) pu_l137 (by decide) c1) ?_
          have e137 : σ1 (136 + 1) i = Int32.ofInt ((pu_parts (pu_left a w h nb nc) w h k).1 k) := by rw [es]; exact hD k hk
          rw [e137]
          refine pu_if (fun c3 => ?_) (fun c3 => ?_)
          · rw [pu_neg1 D1 D2] at c3
            have e := hsk (fun z => c3 z.2)
            exact hf _ ⟨k + 1, hA', by rw [e], by rw [e]; exact hD, hS, hF⟩
          · rw [pu_neg1 D1 D2] at c3
            have c3 := Classical.not_not.mp c3
            have e : pu_parts (pu_left a w h nb nc) w h (k + 1) = ((pu_bf (pu_left a w h nb nc) w h (pu_st0 (pu_parts (pu_left a w h nb nc) w h k).1 k) 400).1, (pu_parts (pu_left a w h nb nc) w h k).2 + 1) := by rw [pu_parts_S]; exact if_pos ⟨pu_bF c2, c3⟩
            rw [es]
            refine pu_bd (pu_cspread (g := pu_left a w h nb nc) (d0 := (pu_parts (pu_left a w h nb nc) w h k).1) w2 h2 (by omega) hk c3 D0 pu_kd140 (by unfold pu_F2; omega) hS hD) (fun r hr => ?_)
            obtain ⟨-, q2, q3⟩ := hr
            generalize pu_bf (pu_left a w h nb nc) w h (pu_st0 (pu_parts (pu_left a w h nb nc) w h k).1 k) 400 = B at e q2
            refine pu_lt (hf _ ⟨k + 1, hA', ?_, fun c hc => ?_, pu_set_cong hS (q3 141 (by unfold pu_F2; omega)), pu_fr_trans hF (pu_F2_SQ q3)⟩)
            · rw [e]; exact pu_add _ 1
            · rw [e]; exact q2.1 c hc
      · have hbt : pu_bt σ1 (140 + 1) i = false := hS.2 i c1 hno
        rw [hbt]
        exact pu_ift (by decide) (hf _ ⟨k, hA', rfl, hD, hS, hF⟩)
/-- partSize: the search from one cell, with nothing seen -/
def pu_psz (g : Nat → Bool) (w h c : Nat) : Nat := if g c = true then (pu_bf g w h (pu_st0 (fun _ => -1) c) 400).2.2 else 0
theorem pu_cpartSize {σ : tw_Sg} {a : Nat → Int32} {w h nb nc c n : Nat} (H : pu_WF a w h nb nc) (C : pu_CC σ a w h nb nc) (hc : c < w * h) (hn : 1000 < n) : pu_wp (tw_P_X8_partSize n (Int32.ofNat (pu_sp w c)) σ) (fun r => r.1 = Int32.ofNat (pu_psz (pu_left a w h nb nc) w h c) ∧ pu_fr pu_SQ σ r.2) := by
  obtain ⟨-, -, w1, w2, h1, h2⟩ := id H.1
  unfold tw_P_X8_partSize
  refine pu_bd (pu_cleft H.1 H.2.1.2.1 H.2.2.1 C.1 C.2.1 (by omega)) (fun r1 hr1 => ?_)
  obtain ⟨x1, x2, x3⟩ := hr1
  refine pu_ck (by rw [x1]; rfl) ?_
  refine pu_bde (a := pu_fill r1.2 137 (-1)) ?_ ?_
  · dsimp only [tw_P_X3_clear]
    rw [pu_rfill (by rw [pu_l137]; decide) (by rw [pu_l137]; omega)]
    rfl
  have hS : pu_set (pu_fill r1.2 137 (-1)) (140 + 1) w (w * h) (pu_left a w h nb nc) := pu_set_cong x2 (pu_fill_n (A := 137) (k := 140 + 1) (x := -1) (by decide))
  have hF : pu_fr pu_SQ σ (pu_fill r1.2 137 (-1)) := pu_fr_trans (pu_fr_mono x3 (fun k hk => by unfold pu_SQ; omega)) (pu_fr_upA (by unfold pu_SQ; omega))
  have hD : ∀ d, d < w * h → pu_fill r1.2 137 (-1) 137 (pu_sp w d) = Int32.ofInt (-1) := fun d hd => by
    have := pu_sp_rng w2 h2 hd
    rw [pu_fill_s (by rw [show tw_ln 137 = 704 from pu_l137]; omega)]
    rfl
  generalize pu_fill r1.2 137 (-1) = σ1 at hS hF hD
  refine pu_bde (pu_hasS pu_kd140 w2 h2 hc hS) ?_
  refine pu_jn (R := fun v => v.1 = Int32.ofNat (pu_psz (pu_left a w h nb nc) w h c) ∧ pu_fr pu_SQ σ v.2) (fun v hv => pu_some hv) (fun f hf => ?_)
  refine pu_if (fun c2 => ?_) (fun c2 => ?_)
  · rw [pu_b1_0] at c2
    exact hf _ ⟨by unfold pu_psz; rw [if_neg (by rw [c2]; decide)]; rfl, hF⟩
  · rw [pu_b1_0] at c2
    refine pu_bd (pu_cspread (g := pu_left a w h nb nc) (d0 := fun _ => -1) w2 h2 (by omega) hc (by decide) (fun _ _ => by decide) pu_kd140 (by unfold pu_F2; omega) hS hD) (fun r hr => ?_)
    obtain ⟨q1, q2, q3⟩ := hr
    exact hf _ ⟨by unfold pu_psz; rw [if_pos (pu_bF c2)]; exact q1, pu_fr_trans hF (pu_F2_SQ q3)⟩
