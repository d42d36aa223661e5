/-! a new island -/
section DQN
variable {Y Y0 Y' : dw_S} {k kd len i j a q th : Nat} {v : Int32} {o : Option Nat} {f : Nat → Int32} {g : Nat → Option Nat}
theorem dq_i_pi_k (h : q ≠ k) : dw_i (dw_pi Y k i v) q j = dw_i Y q j := dq_i_pi_n (fun e => absurd e h)
theorem dq_i_pi_j (h : j ≠ i) : dw_i (dw_pi Y k i v) q j = dw_i Y q j := dq_i_pi_n (fun _ => h)
theorem dq_r_pr_k (h : q ≠ k) : dw_r (dw_pr Y k i o) q j = dw_r Y q j := dq_r_pr_n (fun e => absurd e h)
theorem dq_r_pr_j (h : j ≠ i) : dw_r (dw_pr Y k i o) q j = dw_r Y q j := dq_r_pr_n (fun _ => h)
theorem dq_k_pi : dw_k (dw_pi Y k i v) q = dw_k Y q := rfl
theorem dq_l_pi : dw_l (dw_pi Y k i v) q = dw_l Y q := rfl
theorem dq_n_pi : dw_n (dw_pi Y k i v) = dw_n Y := rfl
theorem dq_k_pr : dw_k (dw_pr Y k i o) q = dw_k Y q := rfl
theorem dq_l_pr : dw_l (dw_pr Y k i o) q = dw_l Y q := rfl
theorem dq_n_pr : dw_n (dw_pr Y k i o) = dw_n Y := rfl
theorem dq_n_nw : dw_n (dw_nw Y a kd len f g) = a + 1 := rfl
theorem dq_i_nw_s : dw_i (dw_nw Y a kd len f g) a j = f j := by rw [dw_nw_i]
theorem dq_r_nw_s : dw_r (dw_nw Y a kd len f g) a j = g j := by rw [dw_nw_r]
set_option maxHeartbeats 1000000 in
theorem dq_init {Q : dw_S → Prop} (h0 : dw_is Y th 13) (hz : ∀ j, dw_i Y th j = 0) (hQ : ∀ Y' ι, dq_I Y' th ι (pu_a0 1 1) 1 1 0 0 → dq_fr (fun k _ => k = th) (fun k _ => k = th) Y Y' → (∀ j, j ≤ 5 → dw_n Y ≤ ι j) → Q Y') : dw_P_X13_init th Y Q := by
  have hlt := h0.1
  have h4 := h0.2.1
  unfold dw_P_X13_init
  have c0 : Int32.toNatClampNeg (0 : Int32) = 0 := rfl
  have c1 : Int32.toNatClampNeg (1 : Int32) = 1 := rfl
  have c2 : Int32.toNatClampNeg (2 : Int32) = 2 := rfl
  have c3 : Int32.toNatClampNeg (3 : Int32) = 3 := rfl
  have c4 : Int32.toNatClampNeg (4 : Int32) = 4 := rfl
  have c5 : Int32.toNatClampNeg (5 : Int32) = 5 := rfl
  have c6 : Int32.toNatClampNeg (6 : Int32) = 6 := rfl
  have c7 : Int32.toNatClampNeg (7 : Int32) = 7 := rfl
  have c8 : Int32.toNatClampNeg (8 : Int32) = 8 := rfl
  have c9 : Int32.toNatClampNeg (9 : Int32) = 9 := rfl
  simp only [c0, c1, c2, c3, c4, c5, c6, c7, c8, c9]
  clear c0 c1 c2 c3 c4 c5 c6 c7 c8 c9
  refine dq_ck h0 (dq_lt (dq_ck h0 (dq_lt (fun q3 h3 => dq_lt ?_))))
  have h3 : dw_n Y ≤ q3 := h3
  have i3 : dw_is (dw_nw (dw_pi (dw_pi Y th 0 1) th 1 1) q3 21 1 (fun _ => 0) (fun _ => none)) th 13 := dq_is_nw h0 h3
  refine dq_ck i3 (dq_lt (fun q6 h6 => dq_lt ?_))
  have h6' : q3 + 1 ≤ q6 := h6
  have i6 := dq_is_nw (kd' := 21) (len := 1) (f := fun _ => 0) (g := fun _ => none) (Y := dw_pr (dw_nw (dw_pi (dw_pi Y th 0 1) th 1 1) q3 21 1 (fun _ => 0) (fun _ => none)) th 2 (some q3)) i3 h6
  refine dq_ck i6 (dq_lt (fun q9 h9 => dq_lt ?_))
  have h9' : q6 + 1 ≤ q9 := h9
  generalize hYa : dw_pr (dw_nw (dw_pr (dw_nw (dw_pi (dw_pi Y th 0 1) th 1 1) q3 21 1 (fun _ => 0) (fun _ => none)) th 2 (some q3)) q6 21 1 (fun _ => 0) fun _ => none) th 3 (some q6) = Ya at *
  have hna : dw_n Ya = q6 + 1 := by rw [← hYa]; rfl
  have ia : dw_is Ya th 13 := by rw [← hYa]; exact i6
  have hM : dq_A1 (dw_nw Ya q9 20 8 (fun _ => 0) (fun _ => none)) q9 20 8 := dq_A1_new (by omega) (by omega)
  have hok : ∀ (x : Int32) (m : Nat), x = Int32.ofNat m → m < 8 → dw_is (dw_nw Ya q9 20 8 (fun _ => 0) (fun _ => none)) q9 20 ∧ tw_ok x (dw_l (dw_nw Ya q9 20 8 (fun _ => 0) (fun _ => none)) q9) = true := fun x m e hm => by rw [e]; exact dq_A1_ok hM hm (by decide)
  refine dq_ck (hok _ 0 rfl (by decide)) (dq_lt (dq_ck (hok _ 1 rfl (by decide)) (dq_lt (dq_ck (hok _ 2 rfl (by decide)) (dq_lt (dq_ck (hok _ 3 rfl (by decide)) (dq_lt (dq_ck (hok _ 4 rfl (by decide)) (dq_lt (dq_ck (hok _ 5 rfl (by decide)) (dq_lt (dq_ck (hok _ 6 rfl (by decide)) (dq_lt (dq_ck (hok _ 7 rfl (by decide)) (dq_lt ?_)))))))))))))))
  have im : dw_is (dw_nw Ya q9 20 8 (fun _ => 0) (fun _ => none)) th 13 := dq_is_nw ia (by omega)
  show pw_ck (dw_is (dw_pi (dw_pi (dw_pi (dw_pi (dw_pi (dw_pi (dw_pi (dw_pi (dw_nw Ya q9 20 8 (fun _ => 0) (fun _ => none)) q9 0 (-1)) q9 1 (-1)) q9 2 (-1)) q9 3 (-1)) q9 4 (-1)) q9 5 (-1)) q9 6 (-1)) q9 7 (-1)) th 13) _
  have hmk : ∀ m, m < 8 → dw_i (dw_pi (dw_pi (dw_pi (dw_pi (dw_pi (dw_pi (dw_pi (dw_pi (dw_nw Ya q9 20 8 (fun _ => 0) (fun _ => none)) q9 0 (-1)) q9 1 (-1)) q9 2 (-1)) q9 3 (-1)) q9 4 (-1)) q9 5 (-1)) q9 6 (-1)) q9 7 (-1)) q9 m = -1 := by
    intro m hm
    have hc : m = 0 ∨ m = 1 ∨ m = 2 ∨ m = 3 ∨ m = 4 ∨ m = 5 ∨ m = 6 ∨ m = 7 := by omega
    rcases hc with e | e | e | e | e | e | e | e <;> subst e <;> simp (disch := omega) only [dq_i_pi_s, dq_i_pi_j]
  have hmo : ∀ q j, q ≠ q9 → dw_i (dw_pi (dw_pi (dw_pi (dw_pi (dw_pi (dw_pi (dw_pi (dw_pi (dw_nw Ya q9 20 8 (fun _ => 0) (fun _ => none)) q9 0 (-1)) q9 1 (-1)) q9 2 (-1)) q9 3 (-1)) q9 4 (-1)) q9 5 (-1)) q9 6 (-1)) q9 7 (-1)) q j = dw_i Ya q j := by
    intro q j hq
    rw [dq_i_pi_k hq, dq_i_pi_k hq, dq_i_pi_k hq, dq_i_pi_k hq, dq_i_pi_k hq, dq_i_pi_k hq, dq_i_pi_k hq, dq_i_pi_k hq, dq_i_nw_n hq]
  have hFb : dq_fr (fun k _ => k = th) (fun k _ => k = th) Y (dw_pi (dw_pi (dw_pi (dw_pi (dw_pi (dw_pi (dw_pi (dw_pi (dw_nw Ya q9 20 8 (fun _ => 0) (fun _ => none)) q9 0 (-1)) q9 1 (-1)) q9 2 (-1)) q9 3 (-1)) q9 4 (-1)) q9 5 (-1)) q9 6 (-1)) q9 7 (-1)) := by
    have hn : q9 < dw_n Y → q9 = th := fun z => absurd z (by omega)
    refine dq_fr_pi (dq_fr_pi (dq_fr_pi (dq_fr_pi (dq_fr_pi (dq_fr_pi (dq_fr_pi (dq_fr_pi (dq_fr_nw ?_ (by omega)) hn) hn) hn) hn) hn) hn) hn) hn
    rw [← hYa]
    exact dq_fr_pr (dq_fr_nw (dq_fr_pr (dq_fr_nw (dq_fr_pi (dq_fr_pi dq_fr_refl (fun _ => rfl)) (fun _ => rfl)) h3) (fun _ => rfl)) h6) (fun _ => rfl)
  have hkb : ∀ q, dw_k (dw_pi (dw_pi (dw_pi (dw_pi (dw_pi (dw_pi (dw_pi (dw_pi (dw_nw Ya q9 20 8 (fun _ => 0) (fun _ => none)) q9 0 (-1)) q9 1 (-1)) q9 2 (-1)) q9 3 (-1)) q9 4 (-1)) q9 5 (-1)) q9 6 (-1)) q9 7 (-1)) q = dw_k (dw_nw Ya q9 20 8 (fun _ => 0) (fun _ => none)) q := fun _ => rfl
  have hlb : ∀ q, dw_l (dw_pi (dw_pi (dw_pi (dw_pi (dw_pi (dw_pi (dw_pi (dw_pi (dw_nw Ya q9 20 8 (fun _ => 0) (fun _ => none)) q9 0 (-1)) q9 1 (-1)) q9 2 (-1)) q9 3 (-1)) q9 4 (-1)) q9 5 (-1)) q9 6 (-1)) q9 7 (-1)) q = dw_l (dw_nw Ya q9 20 8 (fun _ => 0) (fun _ => none)) q := fun _ => rfl
  have hrb : ∀ q j, q ≠ q9 → dw_r (dw_pi (dw_pi (dw_pi (dw_pi (dw_pi (dw_pi (dw_pi (dw_pi (dw_nw Ya q9 20 8 (fun _ => 0) (fun _ => none)) q9 0 (-1)) q9 1 (-1)) q9 2 (-1)) q9 3 (-1)) q9 4 (-1)) q9 5 (-1)) q9 6 (-1)) q9 7 (-1)) q j = dw_r Ya q j := fun q j hq => dq_r_nw_n (Y := Ya) (a := q9) (kd := 20) (len := 8) (f := fun _ => 0) (g := fun _ => none) hq
  have hnb : dw_n (dw_pi (dw_pi (dw_pi (dw_pi (dw_pi (dw_pi (dw_pi (dw_pi (dw_nw Ya q9 20 8 (fun _ => 0) (fun _ => none)) q9 0 (-1)) q9 1 (-1)) q9 2 (-1)) q9 3 (-1)) q9 4 (-1)) q9 5 (-1)) q9 6 (-1)) q9 7 (-1)) = q9 + 1 := rfl
  have ib : dw_is (dw_pi (dw_pi (dw_pi (dw_pi (dw_pi (dw_pi (dw_pi (dw_pi (dw_nw Ya q9 20 8 (fun _ => 0) (fun _ => none)) q9 0 (-1)) q9 1 (-1)) q9 2 (-1)) q9 3 (-1)) q9 4 (-1)) q9 5 (-1)) q9 6 (-1)) q9 7 (-1)) th 13 := im
  generalize dw_pi (dw_pi (dw_pi (dw_pi (dw_pi (dw_pi (dw_pi (dw_pi (dw_nw Ya q9 20 8 (fun _ => 0) (fun _ => none)) q9 0 (-1)) q9 1 (-1)) q9 2 (-1)) q9 3 (-1)) q9 4 (-1)) q9 5 (-1)) q9 6 (-1)) q9 7 (-1) = Yb at hmk hmo hFb hkb hlb hrb hnb ib ⊢
  refine dq_ck ib (dq_lt (fun q20 h20 => dq_lt ?_))
  have h20' : q9 + 1 ≤ q20 := by rw [← hnb]; exact h20
  have i20 := dq_is_nw (kd' := 26) (len := 0) (f := fun _ => 0) (g := fun _ => none) (Y := dw_pr Yb th 4 (some q9)) ib h20
  refine dq_ck i20 (dq_lt (fun q23 h23 => dq_lt ?_))
  have h23' : q20 + 1 ≤ q23 := h23
  have i23 := dq_is_nw (kd' := 24) (len := 0) (f := fun _ => 0) (g := fun _ => none) (Y := dw_pr (dw_nw (dw_pr Yb th 4 (some q9)) q20 26 0 (fun _ => 0) (fun _ => none)) th 5 (some q20)) i20 h23
  refine dq_ck i23 (dq_lt (fun q26 h26 => dq_lt ?_))
  have h26' : q23 + 1 ≤ q26 := h26
  have i26 := dq_is_nw (kd' := 20) (len := 9) (f := fun _ => 0) (g := fun _ => none) (Y := dw_pr (dw_nw (dw_pr (dw_nw (dw_pr Yb th 4 (some q9)) q20 26 0 (fun _ => 0) (fun _ => none)) th 5 (some q20)) q23 24 0 (fun _ => 0) (fun _ => none)) th 6 (some q23)) i23 h26
  refine dq_ck i26 (dq_lt ?_)
  -- reading Ya
  have ya_i : ∀ j, dw_i Ya th j = if j = 0 ∨ j = 1 then 1 else 0 := by
    intro j
    rw [← hYa, dq_i_pr, dq_i_nw_n (by omega), dq_i_pr, dq_i_nw_n (by omega), dq_i_pi, dq_i_pi, hz]
    by_cases e1 : j = 1
    · rw [if_pos ⟨rfl, e1⟩, if_pos (Or.inr e1)]
    · rw [if_neg (fun z => e1 z.2)]
      by_cases e0 : j = 0
      · rw [if_pos ⟨rfl, e0⟩, if_pos (Or.inl e0)]
      · rw [if_neg (fun z => e0 z.2), if_neg (by omega)]
  have ya_r2 : dw_r Ya th 2 = some q3 := by
    rw [← hYa]
    simp (disch := omega) only [dq_r_pr_j, dq_r_nw_n, dq_r_pr_s]
  have ya_r3 : dw_r Ya th 3 = some q6 := by rw [← hYa]; exact dq_r_pr_s
  have ya_q3 : dw_k Ya q3 = 21 ∧ dw_l Ya q3 = 1 ∧ ∀ c, dw_i Ya q3 c = 0 := by
    rw [← hYa]
    simp (disch := omega) only [dq_k_pr, dq_l_pr, dq_i_pr, dq_k_nw_n, dq_l_nw_n, dq_i_nw_n, dw_nw_k, dw_nw_l, dq_i_nw_s, implies_true, and_self]
  have ya_q6 : dw_k Ya q6 = 21 ∧ dw_l Ya q6 = 1 ∧ ∀ c, dw_i Ya q6 c = 0 := by
    rw [← hYa]
    simp (disch := omega) only [dq_k_pr, dq_l_pr, dq_i_pr, dw_nw_k, dw_nw_l, dq_i_nw_s, implies_true, and_self]
  generalize hYc : dw_pr (dw_nw (dw_pr (dw_nw (dw_pr (dw_nw (dw_pr Yb th 4 (some q9)) q20 26 0 (fun _ => 0) (fun _ => none)) th 5 (some q20)) q23 24 0 (fun _ => 0) (fun _ => none)) th 6 (some q23)) q26 20 9 (fun _ => 0) (fun _ => none)) th 12 (some q26) = Yc
  have rd_i : ∀ q j, q < q20 → dw_i Yc q j = dw_i Yb q j := by
    intro q j hq
    rw [← hYc]
    simp (disch := omega) only [dq_i_pr, dq_i_nw_n]
  have rd_k : ∀ q, q < q20 → dw_k Yc q = dw_k Yb q ∧ dw_l Yc q = dw_l Yb q := by
    intro q hq
    rw [← hYc]
    simp (disch := omega) only [dq_k_pr, dq_l_pr, dq_k_nw_n, dq_l_nw_n, and_self]
  have rd_th : ∀ j, j ≠ 4 → j ≠ 5 → j ≠ 6 → j ≠ 12 → dw_r Yc th j = dw_r Yb th j := by
    intro j e4 e5 e6 e12
    rw [← hYc]
    simp (disch := omega) only [dq_r_pr_j, dq_r_nw_n]
  have hnc : dw_n Yc = q26 + 1 := by rw [← hYc]; rfl
  have ich : ∀ q kd len, q < q20 → 442 ≤ q → dw_k Yb q = kd → dw_l Yb q = len → dq_A1 Yc q kd len := fun q kd len hq hq4 hk hl => ⟨⟨by omega, hq4, (rd_k q hq).1.trans hk⟩, (rd_k q hq).2.trans hl⟩
  refine hQ Yc (fun j => if j = 0 then q3 else if j = 1 then q6 else if j = 2 then q9 else if j = 3 then q20 else if j = 4 then q23 else q26) ⟨?_, ⟨?_, ?_, ?_, ?_, ?_, fun z => ?_⟩, ⟨?_, ?_, ?_, ?_, ?_, ?_⟩, ⟨⟨?_, fun c _ => ?_⟩, ⟨?_, fun c _ => ?_⟩, ?_, fun m hm => ?_⟩, ⟨?_, fun k hk => absurd hk (Nat.not_lt_zero _)⟩, ⟨?_, fun q hq => absurd hq (Nat.not_lt_zero _)⟩, ?_, ?_, fun k hk => absurd hk (Nat.not_lt_zero _), fun q hq => absurd hq (Nat.not_lt_zero _), ?_, fun k hk => absurd hk (Nat.not_lt_zero _), fun q hq => absurd hq (Nat.not_lt_zero _)⟩ ?_ (fun j hj => ?_)
  · rw [← hYc]; exact i26
  · rw [rd_i th 0 (by omega), hmo th 0 (by omega), ya_i, if_pos (Or.inl rfl)]; rfl
  · rw [rd_i th 1 (by omega), hmo th 1 (by omega), ya_i, if_pos (Or.inr rfl)]; rfl
  · rw [rd_i th 7 (by omega), hmo th 7 (by omega), ya_i, if_neg (by omega)]; rfl
  · rw [rd_i th 8 (by omega), hmo th 8 (by omega), ya_i, if_neg (by omega)]; rfl
  · rw [rd_i th 9 (by omega), hmo th 9 (by omega), ya_i, if_neg (by omega)]; rfl
  · exact absurd (show (0 : Int32) = 1 from z) (by decide)
  · rw [rd_th 2 (by omega) (by omega) (by omega) (by omega), hrb th 2 (by omega), ya_r2]; rfl
  · rw [rd_th 3 (by omega) (by omega) (by omega) (by omega), hrb th 3 (by omega), ya_r3]; rfl
  · rw [← hYc]
    simp (disch := omega) only [dq_r_pr_j, dq_r_nw_n, dq_r_pr_s]
    rfl
  · rw [← hYc]
    simp (disch := omega) only [dq_r_pr_j, dq_r_nw_n, dq_r_pr_s]
    rfl
  · rw [← hYc]
    simp (disch := omega) only [dq_r_pr_j, dq_r_nw_n, dq_r_pr_s]
    rfl
  · rw [← hYc, dq_r_pr_s]; rfl
  · exact ich q3 21 1 (by omega) (by omega) ((hkb q3).trans ((dq_k_nw_n (by omega)).trans ya_q3.1)) ((hlb q3).trans ((dq_l_nw_n (by omega)).trans ya_q3.2.1))
  · show dw_i Yc q3 c = _
    rw [rd_i q3 c (by omega), hmo q3 c (by omega), ya_q3.2.2]
    exact (pu_a0_z (by omega) (Or.inl (by omega))).symm
  · exact ich q6 21 1 (by omega) (by omega) ((hkb q6).trans ((dq_k_nw_n (by omega)).trans ya_q6.1)) ((hlb q6).trans ((dq_l_nw_n (by omega)).trans ya_q6.2.1))
  · show dw_i Yc q6 c = _
    rw [rd_i q6 c (by omega), hmo q6 c (by omega), ya_q6.2.2]
    exact (pu_a0_z (by omega) (Or.inl (by omega))).symm
  · exact ich q9 20 8 (by omega) (by omega) ((hkb q9).trans dw_nw_k) ((hlb q9).trans dw_nw_l)
  · show dw_i Yc q9 m = _
    rw [rd_i q9 m (by omega), hmk m hm]
    exact (pu_a0_m hm).symm
  · show dq_A1 Yc q20 26 0
    rw [← hYc]
    refine ⟨⟨by show q20 < q26 + 1; omega, by omega, ?_⟩, ?_⟩
    · simp (disch := omega) only [dq_k_pr, dq_k_nw_n, dw_nw_k]
    · simp (disch := omega) only [dq_l_pr, dq_l_nw_n, dw_nw_l]
  · show dq_A1 Yc q23 24 0
    rw [← hYc]
    refine ⟨⟨by show q23 < q26 + 1; omega, by omega, ?_⟩, ?_⟩
    · simp (disch := omega) only [dq_k_pr, dq_k_nw_n, dw_nw_k]
    · simp (disch := omega) only [dq_l_pr, dq_l_nw_n, dw_nw_l]
  · show dq_A1 Yc q26 20 9
    rw [← hYc]
    refine ⟨⟨by show q26 < q26 + 1; omega, by omega, ?_⟩, ?_⟩
    · simp (disch := omega) only [dq_k_pr, dq_k_nw_n, dw_nw_k]
    · simp (disch := omega) only [dq_l_pr, dq_l_nw_n, dw_nw_l]
  · show q26 ≠ q9
    omega
  · show q3 ≠ q6
    omega
  · rw [← hYc]
    exact dq_fr_pr (dq_fr_nw (dq_fr_pr (dq_fr_nw (dq_fr_pr (dq_fr_nw (dq_fr_pr hFb (fun _ => rfl)) h20) (fun _ => rfl)) h23) (fun _ => rfl)) h26) (fun _ => rfl)
  · have hc : j = 0 ∨ j = 1 ∨ j = 2 ∨ j = 3 ∨ j = 4 ∨ j = 5 := by omega
    rcases hc with e | e | e | e | e | e <;> subst e
    · show dw_n Y ≤ q3; omega
    · show dw_n Y ≤ q6; omega
    · show dw_n Y ≤ q9; omega
    · show dw_n Y ≤ q20; omega
    · show dw_n Y ≤ q23; omega
    · show dw_n Y ≤ q26; omega
end DQN
