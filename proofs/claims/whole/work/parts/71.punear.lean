/-! running through the spots as through the cells -/
def pu_at (w m s k : Nat) : Prop := k ≤ m ∧ (∀ c, c < k → pu_sp w c < s) ∧ ∀ c, k ≤ c → c < m → s ≤ pu_sp w c
theorem pu_at0 {w m : Nat} : pu_at w m 0 0 := ⟨Nat.zero_le _, fun c z => absurd z (Nat.not_lt_zero _), fun _ _ _ => Nat.zero_le _⟩
theorem pu_at_end {w h k : Nat} (hw : w ≤ 20) (hh : h ≤ 20) (H : pu_at w (w * h) 704 k) : k = w * h := by
  obtain ⟨h1, -, h3⟩ := H
  by_cases e : k = w * h
  · exact e
  · have := h3 k (Nat.le_refl _) (by omega)
    have := pu_sp_rng hw hh (show k < w * h by omega)
    omega
theorem pu_at_step {w h s k : Nat} (hw : w ≤ 20) (H : pu_at w (w * h) s k) : (k < w * h ∧ s = pu_sp w k ∧ pu_at w (w * h) (s + 1) (k + 1)) ∨ ((∀ c, c < w * h → s ≠ pu_sp w c) ∧ pu_at w (w * h) (s + 1) k) := by
  obtain ⟨h1, h2, h3⟩ := H
  by_cases hk : k < w * h
  · by_cases e : s = pu_sp w k
    · refine Or.inl ⟨hk, e, by omega, fun c hc => ?_, fun c hc hm => ?_⟩
      · by_cases e2 : c = k
        · subst e2; omega
        · have := h2 c (by omega); omega
      · have := pu_sp_mono (w := w) (h := h) hw (show k < c by omega) hm
        omega
    · have h3k := h3 k (Nat.le_refl _) hk
      have hall : ∀ c, k ≤ c → c < w * h → s < pu_sp w c := fun c hc hm => by
        by_cases e2 : c = k
        · subst e2; omega
        · have := pu_sp_mono (w := w) (h := h) hw (show k < c by omega) hm
          omega
      refine Or.inr ⟨fun c hc => ?_, h1, fun c hc => by have := h2 c hc; omega, fun c hc hm => hall c hc hm⟩
      by_cases e2 : c < k
      · have := h2 c e2; omega
      · have := hall c (by omega) hc; omega
  · refine Or.inr ⟨fun c hc => ?_, h1, fun c hc => by have := h2 c hc; omega, fun c hc hm => by omega⟩
    have := h2 c (by omega)
    omega
/-! nearest -/
def pu_nearer (D : Nat → Int) (m : Nat) : Option Nat → Bool | none => true | some b => decide (D m < D b)
def pu_near (p : Nat → Bool) (D : Nat → Int) : Nat → Option Nat
  | 0 => none
  | m + 1 => if p m = true ∧ 0 ≤ D m ∧ pu_nearer D m (pu_near p D m) = true then some m else pu_near p D m
theorem pu_near_S {p : Nat → Bool} {D : Nat → Int} {m : Nat} : pu_near p D (m + 1) = if p m = true ∧ 0 ≤ D m ∧ pu_nearer D m (pu_near p D m) = true then some m else pu_near p D m := rfl
theorem pu_near_lt {p : Nat → Bool} {D : Nat → Int} {m : Nat} : ∀ d, pu_near p D m = some d → d < m := by
  induction m with
  | zero => intro d hd; cases hd
  | succ m ih =>
    intro d hd
    rw [pu_near_S] at hd
    split at hd
    · cases hd; omega
    · have := ih d hd; omega
theorem pu_leI {x y : Int} (hx1 : -1 ≤ x) (hx2 : x ≤ 400) (hy1 : -1 ≤ y) (hy2 : y ≤ 400) : Int32.ofInt x ≤ Int32.ofInt y ↔ x ≤ y := by
  rw [Int32.le_iff_toInt_le, pu_int (by omega) (by omega), pu_int (by omega) (by omega)]
theorem pu_cnear {σ : tw_Sg} {a : Nat → Int32} {w h nb nc n : Nat} (H : pu_WF a w h nb nc) (C : pu_CC σ a w h nb nc) (hn : 1000 < n) : pu_wp (tw_P_X11_nearest n σ) (fun r => r.1 = pu_eR (pu_near (pu_left a w h nb nc) (pu_D a w h) (w * h)) ∧ pu_fr pu_SQ σ r.2) := by
  obtain ⟨-, -, w1, w2, h1, h2⟩ := id H.1
  unfold tw_P_X11_nearest
  refine pu_bd (R := fun r => r.1 = pu_eS w (pu_near (pu_left a w h nb nc) (pu_D a w h) (w * h)) ∧ pu_fr pu_SQ σ r.2) ?_ (fun r hr => ?_)
  rotate_left
  · obtain ⟨r1, r2⟩ := hr
    have hd : r.2 1 0 = Int32.ofNat w := by rw [r2 1 (by unfold pu_SQ; omega)]; exact (pu_CCdim H C).1
    rw [r1]
    exact pu_bde (pu_numS hd w1 w2 h2 (fun d hd => pu_near_lt d hd)) (pu_some (r := (_, r.2)) ⟨rfl, r2⟩)
  unfold tw_P_X8_nearestLeft
  refine pu_bd (pu_cleft H.1 H.2.1.2.1 H.2.2.1 C.1 C.2.1 (by omega)) (fun r1 hr1 => ?_)
  obtain ⟨x1, x2, x3⟩ := hr1
  refine pu_ck (by rw [x1]; rfl) ?_
  have C1 : pu_CC r1.2 a w h nb nc := pu_CC_fr H C (fun k hk => x3 k (by omega))
  refine pu_bd (pu_cfar H C1 (by omega)) (fun r3 hr3 => ?_)
  obtain ⟨y1, y2, y3⟩ := hr3
  refine pu_ck (by rw [y1]; rfl) (pu_lt (pu_lt ?_))
  have hS : pu_set r3.2 (140 + 1) w (w * h) (pu_left a w h nb nc) := pu_set_cong x2 (y3 141 (by unfold pu_F2; omega))
  have hF : pu_fr pu_SQ σ r3.2 := pu_fr_trans (pu_fr_mono x3 (fun k hk => by unfold pu_SQ; omega)) (pu_F2_SQ y3)
  refine pu_lp (J := fun s => ∃ i k, i ≤ 704 ∧ s.2 = Int32.ofNat i ∧ pu_at w (w * h) i k ∧ s.1 = pu_eS w (pu_near (pu_left a w h nb nc) (pu_D a w h) k)) (m := fun s => 704 - s.2.toNatClampNeg) ?_ n _ (by show 704 - _ < n; omega) ⟨0, 0, by omega, rfl, pu_at0, rfl⟩
  rintro k8 ⟨bb, ii⟩ ⟨i, k, hi, e1, hA, e2⟩ hk8
  dsimp only [] at e1 e2
  subst e1; subst e2
  dsimp only []
  refine pu_if (fun c1 => ?_) (fun c1 => ?_)
  · have c1 := (pu_le (a := 704) (by omega) (by omega)).mp c1
    have : i = 704 := by omega
    subst this
    rw [pu_at_end w2 h2 hA]
    exact pu_some (r := (_, r3.2)) ⟨rfl, hF⟩
  · have c1 : i < 704 := Nat.lt_of_not_le (fun z => c1 ((pu_le (a := 704) (b := i) (by omega) (by omega)).mpr z))
    have em : Int32.ofNat i + (1 : Int32) = Int32.ofNat (i + 1) := pu_add i 1
    have hnx : ∀ {v : Int32} {k' : Nat}, pu_at w (w * h) (i + 1) k' → v = pu_eS w (pu_near (pu_left a w h nb nc) (pu_D a w h) k') → pu_wp (k8 (v, Int32.ofNat i + (1 : Int32))) (fun r => r.1 = pu_eS w (pu_near (pu_left a w h nb nc) (pu_D a w h) (w * h)) ∧ pu_fr pu_SQ σ r.2) := fun hA' hv => by
      rw [em]
      refine hk8 _ ⟨i + 1, _, by omega, rfl, hA', hv⟩ ?_
      show 704 - (Int32.ofNat (i + 1)).toNatClampNeg < 704 - (Int32.ofNat i).toNatClampNeg
      rw [pu_n (by omega), pu_n (by omega)]
      omega
    refine pu_bde (pu_has pu_kd140 c1) ?_
    rcases pu_at_step w2 hA with ⟨hk, es, hA'⟩ | ⟨hno, hA'⟩
    · have hbt : pu_bt r3.2 (140 + 1) i = pu_left a w h nb nc k := by rw [es]; exact hS.1 k hk
      obtain ⟨D1, D2⟩ := pu_D_rng H hk
      rw [hbt]
      -- what comes next, by the value
      refine pu_jn (R := fun v => v = (if pu_left a w h nb nc k = true then Int32.ofInt (pu_D a w h k) else (-1 : Int32))) (fun v hv => ?_) (fun f hf => ?_)
      · subst hv
        refine pu_lt ?_
        refine pu_jn (R := fun v => v = pu_eS w (pu_near (pu_left a w h nb nc) (pu_D a w h) (k + 1))) (fun v hv => pu_lt (hnx hA' hv)) (fun g hg => ?_)
        by_cases hl : pu_left a w h nb nc k = true
        · rw [if_pos hl]
          refine pu_if (fun c2 => ?_) (fun c2 => ?_)
          · refine hg _ ?_
            rw [Int32.lt_iff_toInt_lt, pu_toInt0, pu_int (by omega) (by omega)] at c2
            rw [pu_near_S, if_neg (by omega)]
          · rw [Int32.lt_iff_toInt_lt, pu_toInt0, pu_int (by omega) (by omega)] at c2
            have htake : pu_nearer (pu_D a w h) k (pu_near (pu_left a w h nb nc) (pu_D a w h) k) = true → Int32.ofNat i = pu_eS w (pu_near (pu_left a w h nb nc) (pu_D a w h) (k + 1)) := fun hz => by
              rw [pu_near_S, if_pos ⟨hl, by omega, hz⟩, es]; rfl
            have hz0 := pu_eS0 (w := w) (h := h) (o := pu_near (pu_left a w h nb nc) (pu_D a w h) k) w2 h2 (fun d hd => by have := pu_near_lt d hd; omega)
            refine pu_jn0 (pu_if (fun c3 => ?_) (fun c3 => ?_))
            · rw [hz0] at c3
              exact pu_lt (hg _ (htake (by rw [c3]; rfl)))
            · rw [hz0] at c3
              cases eb : pu_near (pu_left a w h nb nc) (pu_D a w h) k with
              | none => exact absurd eb c3
              | some b =>
                have hb : b < w * h := by have := pu_near_lt b eb; omega
                obtain ⟨B1, B2⟩ := pu_D_rng H hb
                refine pu_bde (y2 b hb) (pu_if (fun c4 => ?_) (fun c4 => ?_))
                · rw [pu_leI B1 B2 D1 D2] at c4
                  refine hg _ ?_
                  rw [pu_near_S, if_neg, eb]
                  rintro ⟨-, -, z⟩
                  rw [eb] at z
                  have z : decide (pu_D a w h k < pu_D a w h b) = true := z
                  have := of_decide_eq_true z
                  omega
                · rw [pu_leI B1 B2 D1 D2] at c4
                  refine pu_lt (hg _ (htake ?_))
                  rw [eb]
                  show decide (pu_D a w h k < pu_D a w h b) = true
                  exact decide_eq_true (by omega)
        · rw [if_neg hl]
          refine pu_ift (by decide) (hg _ ?_)
          rw [pu_near_S, if_neg (fun z => hl z.1)]
      · refine pu_if (fun c2 => ?_) (fun c2 => ?_)
        · have c2 : pu_b1 (pu_left a w h nb nc k) = 0 := c2
          rw [pu_b1_0] at c2
          exact hf _ (if_neg (by rw [c2]; decide)).symm
        · have c2 : ¬ pu_b1 (pu_left a w h nb nc k) = 0 := c2
          rw [pu_b1_0] at c2
          rw [es]
          exact pu_bde (y2 k hk) (hf _ (if_pos (pu_bF c2)).symm)
    · have hbt : pu_bt r3.2 (140 + 1) i = false := hS.2 i c1 hno
      rw [hbt]
      refine pu_jn (R := fun v => v = (-1 : Int32)) (fun v hv => ?_) (fun f hf => pu_ift (by decide) (hf _ rfl))
      subst hv
      refine pu_lt (pu_jn (R := fun v => v = pu_eS w (pu_near (pu_left a w h nb nc) (pu_D a w h) k)) (fun v hv => pu_lt (hnx hA' hv)) (fun g hg => pu_ift (by decide) (hg _ rfl)))
