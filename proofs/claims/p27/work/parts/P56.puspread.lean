/-! a whole search, on either side -/
theorem pu_m400 {w h : Nat} (hw : w ≤ 20) (hh : h ≤ 20) : w * h ≤ 400 := by
  calc w * h ≤ 20 * 20 := Nat.mul_le_mul hw hh
    _ = 400 := rfl
def pu_st0 (d0 : Nat → Int) (s : Nat) : pu_St := (va_up d0 s 0, fun _ => s, 1)
theorem pu_st0_BI {d0 : Nat → Int} {s m : Nat} (hs : s < m) (hneg : d0 s < 0) (hd : ∀ c, c < m → -1 ≤ d0 c ∧ d0 c ≤ 400) : pu_BI m (pu_cnt (fun c => decide (0 ≤ d0 c)) m) (pu_st0 d0 s) := by
  refine ⟨?_, fun j hj => ?_, fun c hc => ?_⟩
  · show pu_cnt (fun c => decide (0 ≤ va_up d0 s 0 c)) m = 1 + _
    rw [pu_cnt_one (p := fun c => decide (0 ≤ d0 c)) (d := s) (decide_eq_false (by omega)) (by rw [va_up_self]; rfl) (fun x hx => by rw [va_up_ne _ _ hx]), if_pos hs]
    omega
  · show s < m ∧ 0 ≤ va_up d0 s 0 s ∧ va_up d0 s 0 s ≤ (j : Int)
    rw [va_up_self]
    exact ⟨hs, Int.le_refl _, by omega⟩
  · show -1 ≤ va_up d0 s 0 c ∧ va_up d0 s 0 c ≤ 400
    by_cases e : c = s
    · subst e; rw [va_up_self]; omega
    · rw [va_up_ne _ _ e]; exact hd c hc
theorem pu_bf_last {g : Nat → Bool} {w h i : Nat} {st : pu_St} (hi : i ≤ 400) (he : ¬ i < (pu_bf g w h st i).2.2) : pu_bf g w h st 400 = pu_bf g w h st i := by
  have := pu_bf_end he (400 - i)
  rw [show i + (400 - i) = 400 from by omega] at this
  exact this
theorem pu_cspread {σ : tw_Sg} {g : Nat → Bool} {w h s n r0 : Nat} {d0 : Nat → Int} (hw : w ≤ 20) (hh : h ≤ 20) (hn : 500 < n) (hs : s < w * h) (hneg : d0 s < 0) (hd : ∀ c, c < w * h → -1 ≤ d0 c ∧ d0 c ≤ 400) (hk : tw_kd r0 = 0) (hr0 : ¬ pu_F2 (r0 + 1)) (hg : pu_set σ (r0 + 1) w (w * h) g) (hR : ∀ c, c < w * h → σ 137 (pu_sp w c) = Int32.ofInt (d0 c)) :
    pu_wp (tw_P_X3_spread n r0 (Int32.ofNat (pu_sp w s)) σ) (fun r => r.1 = Int32.ofNat (pu_bf g w h (pu_st0 d0 s) 400).2.2 ∧ pu_RC r.2 w (w * h) (pu_bf g w h (pu_st0 d0 s) 400) ∧ pu_fr pu_F2 σ r.2) := by
  have hm := pu_m400 hw hh
  have hsr := pu_sp_rng hw hh hs
  have H0 := pu_st0_BI hs hneg hd
  dsimp only [tw_P_X3_spread, tw_lt]
  refine pu_bde (pu_put (N := 704) (by decide +kernel) (by decide) (by omega)) ?_
  refine pu_bde (pu_put (i := 0) (N := 400) (by decide +kernel) (by decide) (by omega)) ?_
  have hF0 : pu_fr pu_F2 σ (tw_up (tw_up σ (136 + 1) (pu_sp w s) 0) (138 + 1) 0 (Int32.ofNat (pu_sp w s))) := pu_fr_trans (pu_fr_up (Or.inl rfl)) (pu_fr_up (Or.inr rfl))
  refine pu_lp (J := fun a => ∃ i, i ≤ 400 ∧ a.2.1 = Int32.ofNat i ∧ a.1 = Int32.ofNat (pu_bf g w h (pu_st0 d0 s) i).2.2 ∧ pu_RC a.2.2 w (w * h) (pu_bf g w h (pu_st0 d0 s) i) ∧ pu_fr pu_F2 σ a.2.2) (m := fun a => 401 - a.2.1.toNatClampNeg) ?_ n _ (by show 401 - _ < n; omega) ⟨0, by omega, rfl, rfl, ⟨fun c hc => ?_, fun j hj => ?_⟩, hF0⟩
  · rintro k ⟨sz, ii, σ1⟩ ⟨i, hi, e1, e2, hR1, hF⟩ hk1
    dsimp only [] at e1 e2 hR1 hF
    subst e1; subst e2
    have B := pu_bf_BI (g := g) hw hh H0 i
    have hle := pu_BI_le B
    dsimp only [tw_jn]
    refine pu_if (fun hc => ?_) (fun hc => ?_)
    · have hc := (pu_le (by omega) (by omega)).mp hc
      rw [pu_bf_last hi (by omega)]
      exact pu_some ⟨rfl, hR1, hF⟩
    · have hc : i < (pu_bf g w h (pu_st0 d0 s) i).2.2 := by
        rw [pu_le (by omega) (by omega)] at hc; omega
      refine pu_if (fun h4 => ?_) (fun h4 => ?_)
      · have h4 := (pu_le (a := 400) (by decide) (by omega)).mp h4
        omega
      · obtain ⟨b1, b2, b3⟩ := B.2.1 i hc
        refine pu_bde (pu_get (N := 400) (by decide +kernel) (by decide) (by omega)) ?_
        rw [hR1.2 i hc]
        refine pu_bd (pu_cvisit hw hh (by omega) B hc b1 b2 b3 hk hr0 (pu_set_cong hg (hF _ hr0)) hR1) (fun r hr => ?_)
        obtain ⟨r1, r2, r3⟩ := hr
        have hstep : pu_bf g w h (pu_st0 d0 s) (i + 1) = pu_visN g w h (pu_bf g w h (pu_st0 d0 s) i) ((pu_bf g w h (pu_st0 d0 s) i).2.1 i) 8 := if_pos hc
        have em : Int32.ofNat i + (1 : Int32) = Int32.ofNat (i + 1) := pu_add i 1
        rw [em]
        refine hk1 _ ⟨i + 1, by omega, rfl, by rw [hstep]; exact r1, by rw [hstep]; exact r2, pu_fr_trans hF r3⟩ ?_
        show 401 - (Int32.ofNat (i + 1)).toNatClampNeg < 401 - (Int32.ofNat i).toNatClampNeg
        rw [pu_n (by omega), pu_n (by omega)]
        omega
  · show tw_up (tw_up σ (136 + 1) (pu_sp w s) 0) (138 + 1) 0 (Int32.ofNat (pu_sp w s)) 137 (pu_sp w c) = Int32.ofInt (va_up d0 s 0 c)
    rw [tw_up_n (by decide), tw_up_s]
    unfold upd
    by_cases e : c = s
    · subst e; rw [if_pos rfl, va_up_self]; rfl
    · rw [if_neg (fun e2 => e (pu_sp_inj hw hc hs e2)), va_up_ne _ _ e]
      exact hR c hc
  · have hj : j < 1 := hj
    have : j = 0 := by omega
    subst this
    show tw_up (tw_up σ (136 + 1) (pu_sp w s) 0) (138 + 1) 0 (Int32.ofNat (pu_sp w s)) 139 0 = Int32.ofNat (pu_sp w s)
    rw [tw_up_s]
    exact if_pos rfl
/-- all distances over a ground -/
def pu_far (g : Nat → Bool) (w h s : Nat) : pu_St := pu_bf g w h (pu_st0 (fun _ => -1) s) 400
theorem pu_far_BI {g : Nat → Bool} {w h s : Nat} (hw : w ≤ 20) (hh : h ≤ 20) (hs : s < w * h) : ∃ c0, pu_BI (w * h) c0 (pu_far g w h s) := ⟨_, pu_bf_BI hw hh (pu_st0_BI hs (by decide) (fun _ _ => by decide)) 400⟩
theorem pu_cdist {σ : tw_Sg} {g : Nat → Bool} {w h s n : Nat} (hw : w ≤ 20) (hh : h ≤ 20) (hn : 800 < n) (hs : s < w * h) (hg : pu_set σ 3 w (w * h) g) :
    pu_wp (tw_P_X8_distancesFrom n (Int32.ofNat (pu_sp w s)) σ) (fun r => r.1 = 136 ∧ pu_RC r.2 w (w * h) (pu_far g w h s) ∧ pu_fr pu_F2 σ r.2) := by
  dsimp only [tw_P_X8_distancesFrom, tw_P_X3_clear]
  have hl : tw_ln (136 + 1) = 704 := by decide +kernel
  refine pu_bde (a := pu_fill σ 137 (-1)) ?_ ?_
  · rw [pu_rfill (by omega) (by omega)]
    rfl
  refine pu_bd (pu_cspread (g := g) (d0 := fun _ => -1) hw hh (by omega) hs (by decide) (fun _ _ => by decide) (by decide +kernel) (by unfold pu_F2; decide) (pu_set_cong hg (pu_fill_n (by decide))) (fun c hc => ?_)) (fun r hr => ?_)
  · have := pu_sp_rng hw hh hc
    rw [pu_fill_s (by rw [show tw_ln 137 = 704 from hl]; omega)]
    rfl
  · exact pu_some ⟨rfl, hr.2.1, pu_fr_trans (pu_fr_upA (Or.inl rfl)) hr.2.2⟩
/-! the reference's -/
def pu_F3 (k : Nat) : Prop := k = 508 ∨ k = 509
def pu_RR (σ : tw_Sg) (m : Nat) (st : pu_St) : Prop := (∀ c, c < m → σ 508 c = Int32.ofInt (st.1 c)) ∧ ∀ i, i < st.2.2 → σ 509 i = Int32.ofNat (st.2.1 i)
theorem pu_neg3 {z : Int} (h1 : -1 ≤ z) (h2 : z ≤ 400) : Int32.ofInt z = (-1 : Int32) ↔ z < 0 := by
  rw [← Int32.toInt_inj, pu_int (by omega) (by omega), show (-1 : Int32).toInt = -1 from by decide]
  omega
theorem pu_nm1 {a : Nat} (h : a < 2147483648) : ¬ Int32.ofNat a = (-1 : Int32) := by
  rw [← Int32.toInt_inj, pu_toInt h, show (-1 : Int32).toInt = -1 from by decide]
  omega
