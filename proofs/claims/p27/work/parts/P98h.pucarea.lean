/-! the class: an area, water -/
section CAREA
variable {σ σ0 : tw_Sg} {B : Nat → Nat} {L p n w h : Nat} {E : Option (Int32 × Nat)} {A : Nat → Int32} {Q : tw_Sg → Prop}
theorem pu_SC_400 {i : Nat} {x : Int32} (H : pu_SC B L w h σ0 Q E p σ) (hi : i = 9 ∨ i = 10) : pu_SC B L w h σ0 Q E p (tw_up σ 400 i x) := by
  obtain ⟨⟨s, ⟨t1, ⟨t2, t3, t5⟩, t6, t4⟩, h2⟩, ⟨d1, d2⟩, hD, g⟩ := H
  refine ⟨⟨s, ⟨pu_cT_up t1 (by omega), ⟨(pu_u400 (by omega)).trans t2, (pu_u400 (by omega)).trans t3, (pu_u400 (by omega)).trans t5⟩, t6, pu_eC_up t4 (by omega) (by omega)⟩, h2⟩, ⟨?_, ?_⟩, fun z => by rw [pu_bk_fr (fun k hk => tw_up_n hk)]; exact hD z, pu_fK_trans g ⟨fun k b _ => tw_up_n b, pu_u400 (by omega)⟩⟩
  · rw [tw_up_n (by decide)]; exact d1
  · rw [tw_up_n (by decide)]; exact d2
noncomputable def pu_eA (B : Nat → Nat) (L w h : Nat) (E : Option (Int32 × Nat)) (p : Nat) : Option (Int32 × Nat) := pu_eN B L (pu_eN B L (pu_eN B L (pu_eN B L E (0 : Nat) (w - 1 : Nat) p) (0 : Nat) (h - 1 : Nat) (pu_nk B L 1 p)) (pu_num B L p) (w - 1 : Nat) (pu_nk B L 2 p)) (pu_num B L (pu_nk B L 1 p)) (h - 1 : Nat) (pu_nk B L 3 p)
theorem pu_eA0 (h0 : pu_eA B L w h E p = none) : E = none ∧ pu_num B L p ≤ pu_num B L (pu_nk B L 2 p) ∧ pu_num B L (pu_nk B L 2 p) ≤ w - 1 ∧ pu_num B L (pu_nk B L 1 p) ≤ pu_num B L (pu_nk B L 3 p) ∧ pu_num B L (pu_nk B L 3 p) ≤ h - 1 := by
  obtain ⟨a1, -, b1, b2⟩ := pu_fs0.mp h0
  obtain ⟨a2, -, c1, c2⟩ := pu_fs0.mp a1
  obtain ⟨a3, -⟩ := pu_fs0.mp a2
  obtain ⟨a4, -⟩ := pu_fs0.mp a3
  exact ⟨a4, by omega, by omega, by omega, by omega⟩
def pu_sq (w h x0 y0 x1 y1 : Nat) : Prop := x0 ≤ x1 ∧ x1 < w ∧ y0 ≤ y1 ∧ y1 < h
theorem pu_scArea (H : pu_SC B L w h σ0 Q E p σ) (w1 : 0 < w) (w2 : w ≤ 20) (h1 : 0 < h) (h2 : h ≤ 20) (hn : 2000 < n) : pu_wp (tw_P_X6_readArea n σ) (fun σ' => (∃ x0 y0 x1 y1, pu_sq w h x0 y0 x1 y1 ∧ σ' 400 9 = Int32.ofNat (pu_spot x0 y0) ∧ σ' 400 10 = Int32.ofNat (pu_spot x1 y1) ∧ (pu_eA B L w h E p = none → x0 = pu_num B L p ∧ y0 = pu_num B L (pu_nk B L 1 p) ∧ x1 = pu_num B L (pu_nk B L 2 p) ∧ y1 = pu_num B L (pu_nk B L 3 p))) ∧ pu_SC B L w h σ0 Q (pu_eA B L w h E p) (pu_nk B L 4 p) σ') := by
  unfold tw_P_X6_readArea
  have eS : ∀ m : Nat, 0 < m → Int32.ofNat m - (1 : Int32) = Int32.ofNat (m - 1) := fun m hm => pu_sub (b := 1) hm
  refine pu_bd (pu_scN (a := 0) (b := w - 1) (lo' := 0) H rfl (by rw [H.2.1.1]; exact eS w w1) (Nat.zero_le _) (by omega) (fun _ => rfl) hn) (fun r1 hr => pu_lt ?_)
  obtain ⟨⟨x0, e0, -, g0, i0⟩, H1, -⟩ := hr
  refine pu_bd (pu_scN (a := 0) (b := h - 1) (lo' := 0) H1 rfl (by rw [H1.2.1.2]; exact eS h h1) (Nat.zero_le _) (by omega) (fun _ => rfl) hn) (fun r2 hr => pu_lt ?_)
  obtain ⟨⟨y0, e1, -, g1, i1⟩, H2, -⟩ := hr
  refine pu_bd (pu_scN (a := x0) (b := w - 1) (lo' := pu_num B L p) H2 e0 (by rw [H2.2.1.1]; exact eS w w1) g0 (by omega) (fun z => i0 (pu_fs0.mp z).1) hn) (fun r3 hr => pu_lt ?_)
  obtain ⟨⟨x1, e2, f2, g2, i2⟩, H3, -⟩ := hr
  refine pu_bd (pu_scN (a := y0) (b := h - 1) (lo' := pu_num B L (pu_nk B L 1 p)) H3 e1 (by rw [H3.2.1.2]; exact eS h h1) g1 (by omega) (fun z => i1 (pu_fs0.mp z).1) hn) (fun r4 hr => pu_lt ?_)
  obtain ⟨⟨y1, e3, f3, g3, i3⟩, H4, -⟩ := hr
  rw [e0, e1, e2, e3]
  refine pu_bde pu_spotAt (pu_lt (pu_bde pu_spotAt (pu_lt (pu_some ⟨⟨x0, y0, x1, y1, ⟨f2, by omega, f3, by omega⟩, (pu_u400 (by decide)).trans pu_u400s, pu_u400s, fun z => ?_⟩, pu_SC_400 (pu_SC_400 H4 (by decide)) (by decide)⟩))))
  have z3 := (pu_fs0.mp z).1
  have z2 := (pu_fs0.mp z3).1
  have z1 := (pu_fs0.mp z2).1
  exact ⟨i0 z1, i1 z2, i2 z3, i3 z⟩
def pu_inA (w x0 y0 x1 y1 c : Nat) : Bool := decide (x0 ≤ c % w ∧ c % w ≤ x1 ∧ y0 ≤ c / w ∧ c / w ≤ y1)
theorem pu_in_sp {x0 y0 x1 y1 c : Nat} (w1 : 0 < w) (w2 : w ≤ 20) (hq : pu_sq w h x0 y0 x1 y1) : pu_in (pu_spot x0 y0) (pu_spot x1 y1) (pu_sp w c) = pu_inA w x0 y0 x1 y1 c := by
  obtain ⟨q1, q2, q3, q4⟩ := hq
  obtain ⟨r1, r2⟩ := pu_sp_row (c := c) w1 w2
  unfold pu_in pu_inA pu_spot
  rw [r1, r2]
  have a1 : ((y0 + 1) * 32 + x0 + 1) % 32 = x0 + 1 := by omega
  have a2 : ((y0 + 1) * 32 + x0 + 1) / 32 = y0 + 1 := by omega
  have a3 : ((y1 + 1) * 32 + x1 + 1) % 32 = x1 + 1 := by omega
  have a4 : ((y1 + 1) * 32 + x1 + 1) / 32 = y1 + 1 := by omega
  rw [a1, a2, a3, a4]
  congr 1
  exact propext ⟨fun z => by omega, fun z => by omega⟩
theorem pu_in_0 {x0 y0 b : Nat} (hx : x0 < 20) : pu_in (pu_spot x0 y0) b 0 = false := by
  unfold pu_in pu_spot
  exact decide_eq_false (fun z => by omega)
def pu_oA (w x0 y0 x1 y1 : Nat) : Option Nat → Bool | some c => pu_inA w x0 y0 x1 y1 c | none => false
theorem pu_btw {x0 y0 x1 y1 : Nat} (w1 : 0 < w) (w2 : w ≤ 20) (h2 : h ≤ 20) (hq : pu_sq w h x0 y0 x1 y1) {o : Option Nat} (ho : ∀ c, o = some c → c < w * h) : tw_P_X11_isBetween (Int32.ofNat (pu_spot x0 y0)) (Int32.ofNat (pu_spot x1 y1)) (pu_eS w o) σ = some (if pu_oA w x0 y0 x1 y1 o = true then 1 else 0) := by
  obtain ⟨q1, q2, q3, q4⟩ := id hq
  have b1 : pu_spot x0 y0 < 2147483648 := by unfold pu_spot; omega
  have b2 : pu_spot x1 y1 < 2147483648 := by unfold pu_spot; omega
  cases o with
  | none =>
    have := pu_isBetween (σ := σ) (s := 0) b1 b2 (by decide)
    rw [pu_in_0 (by omega)] at this
    exact this
  | some c =>
    have hs := pu_sp_rng w2 h2 (ho c rfl)
    have := pu_isBetween (σ := σ) (s := pu_sp w c) b1 b2 (by omega)
    rw [pu_in_sp w1 w2 hq] at this
    exact this
theorem pu_l409 : tw_ln (408 + 1) = 8 := by decide +kernel
theorem pu_standsAny {x y : Int32} (hn : 2000 < n) : pu_wp (tw_P_X2_standsOnMark n 403 x y σ) (fun _ => True) := by
  unfold tw_P_X2_standsOnMark
  refine pu_lt ?_
  refine pu_lp (J := fun t => ∃ m, m ≤ 8 ∧ t = Int32.ofNat m) (m := fun t => 8 - t.toNatClampNeg) ?_ n _ (by show 8 - _ < n; omega) ⟨0, by omega, rfl⟩
  rintro k3 mm ⟨m, hm, e1⟩ hk3
  subst e1
  refine pu_if (fun c => pu_ck rfl (pu_some trivial)) (fun c => ?_)
  rw [show (8 : Int32) = Int32.ofNat 8 from rfl, pu_le (by decide) (by omega)] at c
  refine pu_bde (pu_get (th := 403 + 5) (i := m) (N := 8) pu_l409 (by decide) (by omega)) ?_
  obtain ⟨b, hb⟩ := pu_isBetween_any (σ := σ) (a := x) (b := y) (s := σ (403 + 5 + 1) m)
  refine pu_bde hb (pu_if (fun _ => ?_) (fun _ => pu_ck rfl (pu_some trivial)))
  refine pu_lt ?_
  have em : Int32.ofNat m + (1 : Int32) = Int32.ofNat (m + 1) := pu_add m 1
  rw [em]
  refine hk3 _ ⟨m + 1, by omega, rfl⟩ ?_
  rw [pu_n (by omega), pu_n (by omega)]
  omega
def pu_mA (A : Nat → Int32) (w x0 y0 x1 y1 m : Nat) : Bool := pu_oA w x0 y0 x1 y1 (pu_mk A m)
theorem pu_stands {x0 y0 x1 y1 : Nat} (w1 : 0 < w) (w2 : w ≤ 20) (h2 : h ≤ 20) (hq : pu_sq w h x0 y0 x1 y1) (hM : ∀ m, m < 8 → σ 409 m = pu_eS w (pu_mk A m)) (hlt : ∀ m c, m < 8 → pu_mk A m = some c → c < w * h) (hn : 2000 < n) : pu_wp (tw_P_X2_standsOnMark n 403 (Int32.ofNat (pu_spot x0 y0)) (Int32.ofNat (pu_spot x1 y1)) σ) (fun r => r = 0 ↔ ∀ m, m < 8 → pu_mA A w x0 y0 x1 y1 m = false) := by
  unfold tw_P_X2_standsOnMark
  refine pu_lt ?_
  refine pu_lp (J := fun t => ∃ m, m ≤ 8 ∧ t = Int32.ofNat m ∧ ∀ k, k < m → pu_mA A w x0 y0 x1 y1 k = false) (m := fun t => 8 - t.toNatClampNeg) ?_ n _ (by show 8 - _ < n; omega) ⟨0, by omega, rfl, fun k z => absurd z (Nat.not_lt_zero _)⟩
  rintro k3 mm ⟨m, hm, e1, hall⟩ hk3
  subst e1
  refine pu_if (fun c => ?_) (fun c => ?_) <;> rw [show (8 : Int32) = Int32.ofNat 8 from rfl, pu_le (by decide) (by omega)] at c
  · exact pu_ck rfl (pu_some ⟨fun _ k hk => hall k (by omega), fun _ => rfl⟩)
  refine pu_bde (pu_get (th := 403 + 5) (i := m) (N := 8) pu_l409 (by decide) (by omega)) ?_
  rw [show σ (403 + 5 + 1) m = pu_eS w (pu_mk A m) from hM m (by omega)]
  refine pu_bde (pu_btw w1 w2 h2 hq (fun c hc => hlt m c (by omega) hc)) ?_
  show pu_wp (if (if pu_mA A w x0 y0 x1 y1 m = true then (1 : Int32) else 0) = 0 then _ else _) _
  by_cases e : pu_mA A w x0 y0 x1 y1 m = true
  · rw [if_pos e]
    refine pu_iff pu_10 (pu_ck rfl (pu_some ⟨fun z => absurd z pu_10, fun z => ?_⟩))
    rw [z m (by omega)] at e
    cases e
  · rw [if_neg e]
    refine pu_ift rfl (pu_lt ?_)
    have em : Int32.ofNat m + (1 : Int32) = Int32.ofNat (m + 1) := pu_add m 1
    rw [em]
    refine hk3 _ ⟨m + 1, by omega, rfl, fun k hk => ?_⟩ ?_
    · by_cases e2 : k = m
      · subst e2
        exact Bool.eq_false_iff.mpr e
      · exact hall k (by omega)
    · rw [pu_n (by omega), pu_n (by omega)]
      omega
/-- the land in a rectangle goes -/
theorem pu_flood {x0 y0 x1 y1 : Nat} (w2 : w ≤ 20) (h2 : h ≤ 20) (hq : pu_sq w h x0 y0 x1 y1) (hn : 2000 < n) : pu_wp (tw_P_X2_flood n 403 (Int32.ofNat (pu_spot x0 y0)) (Int32.ofNat (pu_spot x1 y1)) σ) (fun σ' => (∀ s, s < 704 → pu_bt σ' 405 s = (!pu_in (pu_spot x0 y0) (pu_spot x1 y1) s && pu_bt σ 405 s)) ∧ ∀ k, k ≠ 405 → σ' k = σ k) := by
  obtain ⟨q1, q2, q3, q4⟩ := hq
  have ha : pu_spot x0 y0 < 704 := by unfold pu_spot; omega
  have hb : pu_spot x1 y1 < 704 := by unfold pu_spot; omega
  have hio : ∀ s, pu_in (pu_spot x0 y0) (pu_spot x1 y1) s = true → pu_spot x0 y0 ≤ s ∧ s ≤ pu_spot x1 y1 := fun s hs => by
    have := of_decide_eq_true hs
    omega
  generalize pu_spot x0 y0 = a at ha hio ⊢
  generalize pu_spot x1 y1 = b at hb hio ⊢
  clear q1 q2 q3 q4
  unfold tw_P_X2_flood
  refine pu_lt ?_
  refine pu_lp (J := fun x => ∃ t, t ≤ 704 ∧ a ≤ t ∧ x.1 = Int32.ofNat t ∧ (∀ s, s < 704 → pu_bt x.2 405 s = (!(decide (s < t) && pu_in a b s) && pu_bt σ 405 s)) ∧ ∀ k, k ≠ 405 → x.2 k = σ k) (m := fun x => 705 - x.1.toNatClampNeg) ?_ n _ (by show 705 - _ < n; omega) ⟨a, by omega, Nat.le_refl _, rfl, fun s hs => ?_, fun _ _ => rfl⟩
  rotate_left
  · by_cases e : pu_in a b s = true
    · have := hio s e
      rw [decide_eq_false (show ¬ s < a by omega)]
      rfl
    · rw [Bool.eq_false_iff.mpr e, Bool.and_false]
      rfl
  rintro k3 ⟨tt, x⟩ ⟨t, ht, hat, e1, hbt, hf⟩ hk3
  dsimp only [] at e1 hbt hf
  subst e1
  dsimp only []
  refine pu_jn (R := fun _ => b < t ∨ t = 704) (fun u hu => ?_) (fun f hf' => ?_)
  · have hu : b < t ∨ t = 704 := hu
    refine pu_some ⟨fun s hs => ?_, hf⟩
    rw [hbt s hs]
    by_cases e : pu_in a b s = true
    · have := hio s e
      rw [e, decide_eq_true (show s < t by omega)]
      rfl
    · rw [Bool.eq_false_iff.mpr e, Bool.and_false]
  refine pu_if (fun c => ?_) (fun c => ?_) <;> rw [pu_ltn (by omega) (by omega)] at c
  · exact hf' () (Or.inl c)
  refine pu_if (fun c2 => ?_) (fun c2 => ?_) <;> rw [show (704 : Int32) = Int32.ofNat 704 from rfl, pu_le (by decide) (by omega)] at c2
  · exact hf' () (Or.inr (by omega))
  refine pu_bde (pu_isBetween (by omega) (by omega) (by omega)) ?_
  refine pu_jn (R := fun y => (∀ s, s < 704 → pu_bt y 405 s = (!(decide (s < t + 1) && pu_in a b s) && pu_bt σ 405 s)) ∧ ∀ k, k ≠ 405 → y k = σ k) (fun y hy => ?_) (fun g hg => ?_)
  · refine pu_lt ?_
    have em : Int32.ofNat t + (1 : Int32) = Int32.ofNat (t + 1) := pu_add t 1
    rw [em]
    refine hk3 _ ⟨t + 1, by omega, by omega, rfl, hy.1, hy.2⟩ ?_
    show 705 - (Int32.ofNat (t + 1)).toNatClampNeg < 705 - (Int32.ofNat t).toNatClampNeg
    rw [pu_n (by omega), pu_n (by omega)]
    omega
  by_cases e : pu_in a b t = true
  · rw [if_pos e]
    refine pu_iff pu_10 (pu_bde (pu_rem_eq (th := 403 + 1) (by decide +kernel) (by omega)) (hg _ ⟨fun s hs => ?_, fun k hk => (pu_remb_n hk).trans (hf k hk)⟩))
    rw [show pu_bt (pu_remb x (403 + 1 + 1) t) 405 s = _ from pu_remb_bt (by omega), hbt s hs]
    by_cases e2 : s = t
    · subst e2
      rw [e, decide_eq_true (show s = s from rfl), decide_eq_true (show s < s + 1 by omega)]
      rfl
    · rw [decide_eq_false e2]
      by_cases e3 : s < t
      · rw [decide_eq_true e3, decide_eq_true (show s < t + 1 by omega)]
        rfl
      · rw [decide_eq_false e3, decide_eq_false (show ¬ s < t + 1 by omega)]
        rfl
  · rw [if_neg e]
    refine pu_ift rfl (hg _ ⟨fun s hs => ?_, hf⟩)
    rw [hbt s hs]
    by_cases e2 : s = t
    · subst e2
      rw [Bool.eq_false_iff.mpr e, Bool.and_false, Bool.and_false]
    · by_cases e3 : s < t
      · rw [decide_eq_true e3, decide_eq_true (show s < t + 1 by omega)]
      · rw [decide_eq_false e3, decide_eq_false (show ¬ s < t + 1 by omega)]
theorem pu_countAny {th : Nat} (hl : tw_ln (th + 1) = 22) (hn : 2000 < n) : pu_wp (tw_P_X0_count n th σ) (fun _ => True) := by
  unfold tw_P_X0_count
  rw [hl]
  refine pu_lt (pu_lt (pu_lt ?_))
  refine pu_lp (J := fun t => ∃ i, i ≤ 22 ∧ t.2 = Int32.ofNat i) (m := fun t => 22 - t.2.toNatClampNeg) ?_ n _ (by show 22 - _ < n; omega) ⟨0, by omega, rfl⟩
  rintro k5 ⟨cc, ii⟩ ⟨i, hi, e1⟩ hk5
  dsimp only [] at e1
  subst e1
  dsimp only []
  refine pu_if (fun c => pu_some trivial) (fun c => ?_)
  rw [pu_le (by decide) (by omega)] at c
  refine pu_ck (pu_ok (by omega) (by omega)) (pu_lt (pu_bde pu_bitCount_sum (pu_lt (pu_lt ?_))))
  have em : Int32.ofNat i + (1 : Int32) = Int32.ofNat (i + 1) := pu_add i 1
  rw [em]
  refine hk5 _ ⟨i + 1, by omega, rfl⟩ ?_
  show 22 - (Int32.ofNat (i + 1)).toNatClampNeg < 22 - (Int32.ofNat i).toNatClampNeg
  rw [pu_n (by omega), pu_n (by omega)]
  omega
end CAREA
