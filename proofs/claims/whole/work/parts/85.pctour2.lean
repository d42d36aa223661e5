/-! tour of the class, whole -/
noncomputable def pu_oTourK (a : Nat → Int32) (w h : Nat) (K : Nat) (G : Nat → Nat) : Int32 := if K = 0 then 0 else if 9 < K then -2 else if pu_B (∀ j, j < K → 0 ≤ pu_dd a w h (pu_v a 4) (G j)) = true then pu_mC 1000000 (pu_best K (fun j => pu_dd a w h (pu_v a 4) (G j)) (fun i j => pu_dd a w h (G i) (G j))) else -1
noncomputable def pu_oTour (a : Nat → Int32) (w h nb nc : Nat) : Int32 := pu_oTourK a w h (pu_sum (pu_left a w h nb nc) (w * h)) (pu_g (pu_left a w h nb nc) (w * h))
theorem pu_hpG {a : Nat → Int32} {w h nb nc K : Nat} {G : Nat → Nat} (H : pu_WF a w h nb nc) (hG : ∀ j, j < K → G j < w * h) : pu_hp K (fun j => pu_dd a w h (pu_v a 4) (G j)) (fun i j => pu_dd a w h (G i) (G j)) := ⟨fun i hi => pu_dd_rng H (pu_team H).2.1 (hG i hi), fun i k hi hk => pu_dd_rng H (hG i hi) (hG k hk)⟩
theorem pu_ctour {σ : tw_Sg} {a : Nat → Int32} {w h nb nc n : Nat} (H : pu_WF a w h nb nc) (C : pu_CC σ a w h nb nc) (hn : 1000 < n) : pu_wp (tw_P_X11_tour n σ) (fun r => r.1 = pu_oTour a w h nb nc ∧ pu_fr pu_SQ σ r.2) := by
  obtain ⟨-, -, w1, w2, h1, h2⟩ := id H.1
  have hm400 := pu_wfm_le H.1
  unfold tw_P_X11_tour
  refine pu_bd (R := fun r => r.1 = pu_oTour a w h nb nc ∧ pu_fr pu_SQ σ r.2) ?_ (fun r hr => pu_some hr)
  unfold tw_P_X9_shortest
  refine pu_bd (pu_cleft H.1 H.2.1.2.1 H.2.2.1 C.1 C.2.1 (by omega)) (fun r1 hr1 => ?_)
  obtain ⟨x1, x2, x3⟩ := hr1
  refine pu_ck (by rw [x1]; rfl) ?_
  have x2 : pu_set r1.2 (140 + 1) w (w * h) (pu_left a w h nb nc) := x2
  refine pu_bde (pu_ccount (th := 140) pu_kd140 w2 h2 x2 (by omega)) ?_
  have hKle := pu_sum_le (p := pu_left a w h nb nc) (w * h)
  have hgin := fun j => pu_g_in (p := pu_left a w h nb nc) (i := j) (w * h)
  have hat := fun (s : tw_Sg) (hs : pu_set s (140 + 1) w (w * h) (pu_left a w h nb nc)) (i : Nat) (hi : i < pu_sum (pu_left a w h nb nc) (w * h)) => pu_cat (n := n) pu_kd140 w2 h2 hs hi hn
  unfold pu_oTour
  generalize pu_sum (pu_left a w h nb nc) (w * h) = K at hKle hgin hat ⊢
  generalize pu_g (pu_left a w h nb nc) (w * h) = G at hgin hat ⊢
  have hG : ∀ j, j < K → G j < w * h := fun j hj => (hgin j hj).1
  refine pu_ltG (P := fun s => s 435 2 = Int32.ofNat K ∧ pu_set s (140 + 1) w (w * h) (pu_left a w h nb nc) ∧ pu_fr pu_SQ σ s) ⟨?_, pu_set_cong x2 (tw_up_n (show 140 + 1 ≠ 435 by decide)), pu_fr_trans (pu_fr_mono x3 (fun k hk => by unfold pu_SQ; omega)) (pu_fr_up (by unfold pu_SQ; omega))⟩ (fun σ4 h4 => ?_)
  · show tw_up r1.2 435 2 _ 435 2 = _
    rw [tw_up_s]
    exact if_pos rfl
  obtain ⟨f1, f2, f3⟩ := h4
  refine pu_if (fun c1 => ?_) (fun c1 => ?_) <;> rw [f1] at c1
  rotate_left
  · have c1 : K = 0 := (pu_eq (b := 0) (by omega) (by decide)).mp (Classical.not_not.mp c1)
    refine pu_some ⟨?_, f3⟩
    unfold pu_oTourK
    rw [if_pos c1]
  have hK0 : K ≠ 0 := fun z => c1 (by rw [z]; rfl)
  refine pu_if (fun c2 => ?_) (fun c2 => ?_) <;> rw [f1] at c2
  rotate_left
  · have c2 : 9 < K := Nat.lt_of_not_le (fun z => c2 ((pu_le (b := 9) (by omega) (by decide)).mpr z))
    refine pu_some ⟨?_, f3⟩
    unfold pu_oTourK
    rw [if_neg hK0, if_pos c2]
  have hK9 : K ≤ 9 := (pu_le (b := 9) (by omega) (by decide)).mp c2
  have hn9 : ¬ 9 < K := by omega
  refine pu_lt ?_
  refine pu_lp (J := fun t => ∃ i, i ≤ K ∧ t.1 = Int32.ofNat i ∧ t.2 435 2 = Int32.ofNat K ∧ (∀ j, j < i → t.2 437 j = Int32.ofNat (pu_sp w (G j))) ∧ pu_set t.2 (140 + 1) w (w * h) (pu_left a w h nb nc) ∧ pu_fr pu_SQ σ t.2) (m := fun t => K - t.1.toNatClampNeg) ?_ n _ (by show K - _ < n; omega) ⟨0, by omega, rfl, f1, fun j hj => absurd hj (Nat.not_lt_zero _), f2, f3⟩
  clear f1 f2 f3 x1 x2 x3
  rintro k7 ⟨ii, σ5⟩ ⟨i, hi, e1, f1, g1, f2, f3⟩ hk7
  dsimp only [] at e1 f1 g1 f2 f3
  subst e1
  dsimp only []
  refine pu_if (fun c3 => ?_) (fun c3 => ?_) <;> rw [f1] at c3
  rotate_left
  · have c3 : i < K := by rw [pu_le (by omega) (by omega)] at c3; omega
    refine pu_bd (hat σ5 f2 i c3) (fun v hv => ?_)
    subst hv
    refine pu_bde (pu_put (i := i) pu_l437 (by decide) (by omega)) (pu_lt ?_)
    have em : Int32.ofNat i + (1 : Int32) = Int32.ofNat (i + 1) := pu_add i 1
    rw [em]
    refine hk7 _ ⟨i + 1, by omega, rfl, ?_, fun j hj => ?_, pu_set_cong f2 ?_, pu_fr_trans f3 (pu_fr_up (by unfold pu_SQ; omega))⟩ ?_
    · dsimp only []
      rw [tw_up_n (by decide)]
      exact f1
    · show tw_up σ5 437 _ _ 437 _ = _
      rw [tw_up_s]
      unfold upd
      by_cases e : j = i
      · subst e; exact if_pos rfl
      · rw [if_neg e]
        exact g1 j (by omega)
    · dsimp only []
      exact tw_up_n (by decide)
    · show K - (Int32.ofNat (i + 1)).toNatClampNeg < K - (Int32.ofNat i).toNatClampNeg
      rw [pu_n (by omega), pu_n (by omega)]
      omega
  have c3 := (pu_le (by omega) (by omega)).mp c3
  have : i = K := by omega
  subst this
  refine pu_lt ?_
  refine pu_lp (J := fun t => ∃ r, r ≤ i ∧ t.1 = Int32.ofNat r ∧ t.2 435 2 = Int32.ofNat i ∧ (∀ j, j < i → t.2 437 j = Int32.ofNat (pu_sp w (G j))) ∧ (∀ k j, k < r → j < i → t.2 439 (k * 9 + j) = Int32.ofInt (pu_dd a w h (G k) (G j))) ∧ pu_fr pu_SQ σ t.2) (m := fun t => i - t.1.toNatClampNeg) ?_ n _ (by show i - _ < n; omega) ⟨0, by omega, rfl, f1, g1, fun k j hk => absurd hk (Nat.not_lt_zero _), f3⟩
  clear f1 g1 f2 f3 hk7 hat
  rintro k10 ⟨rr, σ6⟩ ⟨r, hr, e1, f1, g1, g2, f3⟩ hk10
  dsimp only [] at e1 f1 g1 g2 f3
  subst e1
  dsimp only []
  have C6 : pu_CC σ6 a w h nb nc := pu_CC_fr H C (fun k hk => f3 k (by unfold pu_SQ; omega))
  have hSQ : ∀ {s s' : tw_Sg}, pu_fr pu_F12 s s' → pu_fr pu_SQ s s' := fun hh => pu_fr_mono hh (fun k hk => by unfold pu_F12 at hk; unfold pu_SQ; omega)
  refine pu_if (fun c4 => ?_) (fun c4 => ?_) <;> rw [f1] at c4
  rotate_left
  · have c4 : r < i := by rw [pu_le (by omega) (by omega)] at c4; omega
    refine pu_bde (pu_get (i := r) pu_l437 (by decide) (by omega)) ?_
    have v : σ6 (436 + 1) r = Int32.ofNat (pu_sp w (G r)) := g1 r c4
    rw [v]
    refine pu_bd (pu_chops (gs := G) H C6 hK9 (by omega) (hG r c4) hG f1 g1 hn) (fun q hq => ?_)
    obtain ⟨-, q2, q3, q4⟩ := hq
    refine pu_lt ?_
    have em : Int32.ofNat r + (1 : Int32) = Int32.ofNat (r + 1) := pu_add r 1
    rw [em]
    refine hk10 _ ⟨r + 1, by omega, rfl, ?_, fun j hj => ?_, fun k j hk hj => ?_, pu_fr_trans f3 (hSQ q4)⟩ ?_
    · show q.2 435 2 = _
      rw [q4 435 (by unfold pu_F12; omega)]; exact f1
    · show q.2 437 j = _
      rw [q4 437 (by unfold pu_F12; omega)]; exact g1 j hj
    · by_cases e : k = r
      · subst e; exact q2 j hj
      · show q.2 439 _ = _
        rw [q3 _ (Or.inl (by omega))]
        exact g2 k j (by omega) hj
    · show i - (Int32.ofNat (r + 1)).toNatClampNeg < i - (Int32.ofNat r).toNatClampNeg
      rw [pu_n (by omega), pu_n (by omega)]
      omega
  have c4 := (pu_le (by omega) (by omega)).mp c4
  have : r = i := by omega
  subst this
  rw [f1, pu_cteam H C6.1]
  refine pu_bd (pu_chops (gs := G) H C6 hK9 hK9 (pu_team H).2.1 hG f1 g1 hn) (fun q hq => ?_)
  obtain ⟨q1, q2, q3, q4⟩ := hq
  refine pu_if (fun c5 => ?_) (fun c5 => ?_) <;> rw [q1] at c5
  · rw [pu_bi_0] at c5
    have c5 := Classical.not_not.mp c5
    refine pu_bd (pu_cjoin (σ := q.2) hK9 (by omega) (pu_hpG H hG) (by rw [q4 435 (by unfold pu_F12; omega)]; exact f1) q2 (fun k j hk hj => by rw [q3 _ (Or.inl (by omega))]; exact g2 k j hk hj) hn) (fun v hv => pu_some ⟨?_, pu_fr_trans f3 (pu_fr_trans (hSQ q4) (pu_fr_mono hv.2 (fun k hk => by unfold pu_F13 at hk; unfold pu_SQ; omega)))⟩)
    show v.1 = _
    rw [hv.1]
    unfold pu_oTourK
    rw [if_neg hK0, if_neg hn9, if_pos (pu_B_t c5)]
  · rw [pu_bi_0] at c5
    have c5 : ¬ (∀ j, j < r → 0 ≤ pu_dd a w h (pu_v a 4) (G j)) := fun z => c5 (fun y => y z)
    refine pu_some ⟨?_, pu_fr_trans f3 (hSQ q4)⟩
    unfold pu_oTourK
    rw [if_neg hK0, if_neg hn9, if_neg (by rw [pu_B_f c5]; decide)]
