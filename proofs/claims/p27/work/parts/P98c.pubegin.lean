/-! a map begun: the class's begin, the reference's layMap -/
section BEG
variable {σ : tw_Sg} {w h n : Nat}
def pu_a0 (w h : Nat) : Nat → Int32 := fun j => if j = 0 then Int32.ofNat w else if j = 1 then Int32.ofNat h else if 808 ≤ j ∧ j < 816 then -1 else 0
theorem pu_a0_0 : pu_a0 w h 0 = Int32.ofNat w := if_pos rfl
theorem pu_a0_1 : pu_a0 w h 1 = Int32.ofNat h := (if_neg (by decide)).trans (if_pos rfl)
theorem pu_a0_m {m : Nat} (hm : m < 8) : pu_a0 w h (808 + m) = -1 := by
  unfold pu_a0
  rw [if_neg (by omega), if_neg (by omega), if_pos (by omega)]
theorem pu_a0_z {j : Nat} (h1 : 2 ≤ j) (h2 : j < 808 ∨ 816 ≤ j) : pu_a0 w h j = 0 := by
  unfold pu_a0
  rw [if_neg (by omega), if_neg (by omega), if_neg (by omega)]
/-- what a Data begun is -/
def pu_beg (σ : tw_Sg) (th w h : Nat) (s : tw_Sg) : Prop := (s th 0 = Int32.ofNat w ∧ s th 1 = Int32.ofNat h ∧ s th 5 = 0 ∧ s th 10 = 0 ∧ s th 11 = 0 ∧ s th 12 = 0 ∧ s th 13 = 0) ∧ s (th + 13) 0 = 0 ∧ pu_set s (th + 2) w (w * h) (fun _ => true) ∧ pu_set s (th + 4) w (w * h) (fun _ => false) ∧ (∀ m, m < 8 → s (th + 6) m = 0) ∧ (∀ q, q < 4 → s (th + 17) q = 0 ∧ s (th + 21) q = 0) ∧ ∀ k, ¬ (th ≤ k ∧ k < th + 32) → s k = σ k
theorem pu_cbegin {th : Nat} (hth : th = 1 ∨ th = 403) (w1 : 0 < w) (w2 : w ≤ 20) (h1 : 0 < h) (h2 : h ≤ 20) (hn : 2000 < n) : pu_wp (tw_P_X2_begin n th (Int32.ofNat w) (Int32.ofNat h) σ) (pu_beg σ th w h) := by
  have hk1 : tw_kd (th + 1) = 0 := by rcases hth with rfl | rfl <;> decide +kernel
  have hk3 : tw_kd (th + 3) = 0 := by rcases hth with rfl | rfl <;> decide +kernel
  have l6 : tw_ln (th + 5 + 1) = 8 := by rcases hth with rfl | rfl <;> decide +kernel
  have l17 : tw_ln (th + 13 + 3 + 1) = 4 := by rcases hth with rfl | rfl <;> decide +kernel
  have l21 : tw_ln (th + 13 + 7 + 1) = 4 := by rcases hth with rfl | rfl <;> decide +kernel
  clear hth
  have hsp : ∀ c, c < w * h → pu_sp w c < 704 := fun c hc => by have := pu_sp_rng w2 h2 hc; omega
  unfold tw_P_X2_begin
  refine pu_lt (pu_ltG (P := fun s => s th 0 = Int32.ofNat w ∧ s th 1 = Int32.ofNat h ∧ ∀ k, k ≠ th → s k = σ k) ⟨?_, ?_, fun k hk => (tw_up_n hk).trans (tw_up_n hk)⟩ (fun s0 h0 => ?_))
  · rw [tw_up_s, pu_upd_n (by decide), tw_up_s]
    exact pu_upd_s
  · rw [tw_up_s]
    exact pu_upd_s
  obtain ⟨a1, a2, a3⟩ := h0
  refine pu_bde (pu_clear hk1 (by omega)) (pu_lt ?_)
  have hl2 := pu_l22 hk1
  have hl4 := pu_l22 hk3
  refine pu_lp (J := fun t => ∃ y, y ≤ h ∧ t.1 = Int32.ofNat y ∧ t.2 th 0 = Int32.ofNat w ∧ t.2 th 1 = Int32.ofNat h ∧ pu_set t.2 (th + 1 + 1) w (w * h) (fun c => decide (c < y * w)) ∧ ∀ k, k ≠ th → k ≠ th + 1 + 1 → t.2 k = σ k) (m := fun t => 30 - t.1.toNatClampNeg) ?_ n _ (by show 30 - _ < n; omega) ⟨0, by omega, rfl, ?_, ?_, pu_set_ext (pu_set_clear hl2 hsp) (fun c _ => (decide_eq_false (by omega)).symm), fun k z1 z2 => (pu_fill_n z2).trans (a3 k z1)⟩
  rotate_left
  · show pu_fill s0 (th + 1 + 1) 0 th 0 = _
    rw [pu_fill_n (by omega)]; exact a1
  · show pu_fill s0 (th + 1 + 1) 0 th 1 = _
    rw [pu_fill_n (by omega)]; exact a2
  clear a1 a2 a3
  rintro k6 ⟨yy, s⟩ ⟨y, hy, e1, a1, a2, a4, a3⟩ hk6
  dsimp only [] at e1 a1 a2 a4 a3
  subst e1
  dsimp only []
  refine pu_jn (R := fun _ => y = h) (fun u hu => ?_) (fun f hf => ?_)
  · have hu : y = h := hu
    subst hu
    have hS : pu_set s (th + 2) w (w * y) (fun _ => true) := pu_set_ext a4 (fun c hc => decide_eq_true (by rw [Nat.mul_comm]; exact hc))
    refine pu_bde (pu_clear hk3 (by omega)) ?_
    have q0 : ∀ k, k ≠ th + 3 + 1 → pu_fill s (th + 3 + 1) 0 k = s k := fun k hk => pu_fill_n hk
    have qS : pu_set (pu_fill s (th + 3 + 1) 0) (th + 4) w (w * y) (fun _ => false) := pu_set_clear hl4 hsp
    generalize pu_fill s (th + 3 + 1) 0 = s1 at q0 qS ⊢
    refine pu_bde (pu_rfill (by rw [l6]; decide) (by rw [l6]; omega)) ?_
    have p0 : ∀ k, k ≠ th + 5 + 1 → pu_fill s1 (th + 5 + 1) 0 k = s1 k := fun k hk => pu_fill_n hk
    have pS : ∀ m, m < 8 → pu_fill s1 (th + 5 + 1) 0 (th + 5 + 1) m = 0 := fun m hm => pu_fill_s (by rw [l6]; exact hm)
    generalize pu_fill s1 (th + 5 + 1) 0 = s2 at p0 pS ⊢
    refine pu_ltG (P := fun t => t th = upd (s2 th) 5 0 ∧ ∀ k, k ≠ th → t k = s2 k) ⟨tw_up_s, fun k hk => tw_up_n hk⟩ (fun s3 h3 => ?_)
    unfold tw_P_X1_clear
    refine pu_bd (R := fun t => (∀ q, q < 4 → t (th + 17) q = 0 ∧ t (th + 21) q = 0) ∧ t (th + 13) 0 = 0 ∧ ∀ k, k ≠ th + 13 → k ≠ th + 17 → k ≠ th + 21 → t k = s3 k) ?_ (fun s4 h4 => ?_)
    · refine pu_ltG (P := fun t => t (th + 13) 0 = 0 ∧ ∀ k, k ≠ th + 13 → t k = s3 k) ⟨?_, fun k hk => tw_up_n hk⟩ (fun t ht => ?_)
      · rw [tw_up_s]; exact pu_upd_s
      refine pu_bde (pu_rfill (by rw [l17]; decide) (by rw [l17]; omega)) (pu_bde (pu_rfill (by rw [l21]; decide) (by rw [l21]; omega)) (pu_some ⟨fun q hq => ⟨?_, ?_⟩, ?_, fun k z1 z2 z3 => ?_⟩))
      · show pu_fill _ (th + 13 + 7 + 1) 0 (th + 13 + 3 + 1) q = 0
        rw [pu_fill_n (by omega)]
        exact pu_fill_s (by rw [l17]; exact hq)
      · show pu_fill _ (th + 13 + 7 + 1) 0 (th + 13 + 7 + 1) q = 0
        exact pu_fill_s (by rw [l21]; exact hq)
      · rw [pu_fill_n (by omega), pu_fill_n (by omega)]
        exact ht.1
      · rw [pu_fill_n (by omega), pu_fill_n (by omega)]
        exact ht.2 k z1
    obtain ⟨b1, b2, b3⟩ := h4
    obtain ⟨c1, c2⟩ := h3
    have hth4 : s4 th = upd (s th) 5 0 := by
      rw [b3 th (by omega) (by omega) (by omega), c1, p0 th (by omega), q0 th (by omega)]
    refine pu_lt (pu_lt (pu_lt (pu_lt (pu_some ?_))))
    have g : ∀ k, k ≠ th → tw_up (tw_up (tw_up (tw_up s4 th 10 0) th 11 0) th 12 0) th 13 0 k = s4 k := fun k hk => by rw [tw_up_n hk, tw_up_n hk, tw_up_n hk, tw_up_n hk]
    have gt : tw_up (tw_up (tw_up (tw_up s4 th 10 0) th 11 0) th 12 0) th 13 0 th = upd (upd (upd (upd (upd (s th) 5 0) 10 0) 11 0) 12 0) 13 0 := by rw [tw_up_s, tw_up_s, tw_up_s, tw_up_s, hth4]
    generalize tw_up (tw_up (tw_up (tw_up s4 th 10 0) th 11 0) th 12 0) th 13 0 = t at g gt ⊢
    have hback : ∀ k, k ≠ th → k ≠ th + 4 → k ≠ th + 6 → k ≠ th + 13 → k ≠ th + 17 → k ≠ th + 21 → t k = s k := fun k z1 z2 z3 z4 z5 z6 => by rw [g k z1, b3 k z4 z5 z6, c2 k z1, p0 k z3, q0 k z2]
    refine ⟨⟨?_, ?_, ?_, ?_, ?_, ?_, ?_⟩, ?_, pu_set_cong hS (hback _ (by omega) (by omega) (by omega) (by omega) (by omega) (by omega)), pu_set_cong qS ?_, fun m hm => ?_, fun q hq => ?_, fun k hk => ?_⟩
    · rw [gt, pu_upd_n (by decide), pu_upd_n (by decide), pu_upd_n (by decide), pu_upd_n (by decide), pu_upd_n (by decide)]; exact a1
    · rw [gt, pu_upd_n (by decide), pu_upd_n (by decide), pu_upd_n (by decide), pu_upd_n (by decide), pu_upd_n (by decide)]; exact a2
    · rw [gt, pu_upd_n (by decide), pu_upd_n (by decide), pu_upd_n (by decide), pu_upd_n (by decide), pu_upd_s]
    · rw [gt, pu_upd_n (by decide), pu_upd_n (by decide), pu_upd_n (by decide), pu_upd_s]
    · rw [gt, pu_upd_n (by decide), pu_upd_n (by decide), pu_upd_s]
    · rw [gt, pu_upd_n (by decide), pu_upd_s]
    · rw [gt, pu_upd_s]
    · rw [g _ (by omega)]; exact b2
    · rw [g _ (by omega), b3 _ (by omega) (by omega) (by omega), c2 _ (by omega), p0 _ (by omega)]
    · rw [g _ (by omega), b3 _ (by omega) (by omega) (by omega), c2 _ (by omega)]; exact pS m hm
    · rw [g _ (by omega), g _ (by omega)]; exact b1 q hq
    · rw [hback k (by omega) (by omega) (by omega) (by omega) (by omega) (by omega)]
      exact a3 k (by omega) (by omega)
  refine pu_if (fun c1 => ?_) (fun c1 => ?_) <;> rw [a2, pu_le (by omega) (by omega)] at c1
  · exact hf () (by show y = h; omega)
  refine pu_if (fun c2 => ?_) (fun c2 => ?_) <;> rw [show (20 : Int32) = Int32.ofNat 20 from rfl, pu_le (by omega) (by omega)] at c2
  · exact hf () (by show y = h; omega)
  refine pu_lt ?_
  refine pu_lp (J := fun t => ∃ x, x ≤ w ∧ t.2.1 = Int32.ofNat x ∧ t.1 = Int32.ofNat y ∧ t.2.2 th 0 = Int32.ofNat w ∧ t.2.2 th 1 = Int32.ofNat h ∧ pu_set t.2.2 (th + 1 + 1) w (w * h) (fun c => decide (c < y * w + x)) ∧ ∀ k, k ≠ th → k ≠ th + 1 + 1 → t.2.2 k = σ k) (m := fun t => 30 - t.2.1.toNatClampNeg) ?_ n _ (by show 30 - _ < n; omega) ⟨0, by omega, rfl, rfl, a1, a2, a4, a3⟩
  clear a1 a2 a3 a4
  rintro k19 ⟨yy, xx, s⟩ ⟨x, hx, e1, e2, a1, a2, a4, a3⟩ hk19
  dsimp only [] at e1 e2 a1 a2 a4 a3
  subst e1; subst e2
  dsimp only []
  refine pu_jn (R := fun _ => x = w) (fun u hu => ?_) (fun g hg => ?_)
  · have hu : x = w := hu
    subst hu
    refine pu_lt ?_
    have em : Int32.ofNat y + (1 : Int32) = Int32.ofNat (y + 1) := pu_add y 1
    rw [em]
    refine hk6 _ ⟨y + 1, by omega, rfl, a1, a2, pu_set_ext a4 (fun c _ => by rw [Nat.succ_mul]), a3⟩ ?_
    show 30 - (Int32.ofNat (y + 1)).toNatClampNeg < 30 - (Int32.ofNat y).toNatClampNeg
    rw [pu_n (by omega), pu_n (by omega)]
    omega
  refine pu_if (fun c3 => ?_) (fun c3 => ?_) <;> rw [a1, pu_le (by omega) (by omega)] at c3
  · exact hg () (by show x = w; omega)
  refine pu_if (fun c4 => ?_) (fun c4 => ?_) <;> rw [show (20 : Int32) = Int32.ofNat 20 from rfl, pu_le (by omega) (by omega)] at c4
  · exact hg () (by show x = w; omega)
  have hxw : x < w := by omega
  have hyh : y < h := by omega
  have hd := pu_cell_lt (q := y) (r := x) hyh hxw
  refine pu_bde pu_spotAt ?_
  have esp : (y + 1) * 32 + x + 1 = pu_sp w (y * w + x) := by
    obtain ⟨d1, d2⟩ := pu_dm (w := w) (q := y) (r := x) hxw
    unfold pu_sp
    rw [d1, d2]
  have hs := hsp _ hd
  rw [esp]
  refine pu_bde (pu_add_eq hk1 hs) (pu_lt ?_)
  have em : Int32.ofNat x + (1 : Int32) = Int32.ofNat (x + 1) := pu_add x 1
  rw [em]
  refine hk19 _ ⟨x + 1, by omega, rfl, rfl, ?_, ?_, pu_set_ext (pu_set_add w2 h2 a4 hd) (fun c hc => ?_), fun k z1 z2 => (pu_addb_n z2).trans (a3 k z1 z2)⟩ ?_
  · dsimp only []
    rw [pu_addb_n (by omega)]; exact a1
  · dsimp only []
    rw [pu_addb_n (by omega)]; exact a2
  · by_cases e : c = y * w + x
    · rw [decide_eq_true e, decide_eq_true (show c < y * w + (x + 1) by omega)]; rfl
    · rw [decide_eq_false e, Bool.false_or]
      by_cases e2 : c < y * w + x
      · rw [decide_eq_true e2, decide_eq_true (show c < y * w + (x + 1) by omega)]
      · rw [decide_eq_false e2, decide_eq_false (show ¬ c < y * w + (x + 1) by omega)]
  · show 30 - (Int32.ofNat (x + 1)).toNatClampNeg < 30 - (Int32.ofNat x).toNatClampNeg
    rw [pu_n (by omega), pu_n (by omega)]
    omega
end BEG
