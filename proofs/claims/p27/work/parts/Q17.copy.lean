/-! a copy of an island -/
section DQY
variable {Y Y0 Y' Y'' : dw_S} {th n : Nat} {ι : Nat → Nat} {a : Nat → Int32} {w h nb nc : Nat}
theorem dq_cinit {Q : dw_S → Prop} (h0 : dw_is Y th 12) (hQ : ∀ Y' s l, dq_fr (fun k _ => k = th) (fun k _ => k = th) Y Y' → dw_r Y' th 0 = some s → dq_A1 Y' s 20 0 → dw_r Y' th 1 = some l → dq_A1 Y' l 23 0 → dw_i Y' th 2 = 1 → dw_n Y ≤ s → dw_n Y ≤ l → s ≠ l → Q Y') : dw_P_X12_init th Y Q := by
  have hlt := h0.1
  have h4 := h0.2.1
  unfold dw_P_X12_init
  have c0 : Int32.toNatClampNeg (0 : Int32) = 0 := rfl
  simp only [c0]
  clear c0
  refine fun q1 h1 => dq_lt (dq_ck (dq_is_nw h0 h1) (dq_lt (fun q4 h4' => dq_lt ?_)))
  have h4' : q1 + 1 ≤ q4 := h4'
  have i4 : dw_is (dw_nw (dw_pr (dw_nw Y q1 20 0 (fun _ => 0) (fun _ => none)) th 0 (some q1)) q4 23 0 (fun _ => 0) (fun _ => none)) th 12 := ⟨by show th < q4 + 1; omega, h4, by simp (disch := omega) only [dq_k_nw_n, dq_k_pr]; exact h0.2.2⟩
  refine dq_ck i4 (dq_lt (dq_ck i4 (dq_lt (hQ _ q1 q4 ?_ ?_ ?_ ?_ ?_ ?_ h1 (by omega) (by omega)))))
  · exact dq_fr_pi (dq_fr_pr (dq_fr_nw (dq_fr_pr (dq_fr_nw dq_fr_refl h1) (fun _ => rfl)) h4') (fun _ => rfl)) (fun _ => rfl)
  · simp (disch := omega) only [dq_r_pi, dq_r_pr_j, dq_r_nw_n, dq_r_pr_s]
  · refine ⟨⟨by show q1 < q4 + 1; omega, by omega, ?_⟩, ?_⟩
    · simp (disch := omega) only [dq_k_pi, dq_k_pr, dq_k_nw_n, dw_nw_k]
    · simp (disch := omega) only [dq_l_pi, dq_l_pr, dq_l_nw_n, dw_nw_l]
  · simp (disch := omega) only [dq_r_pi, dq_r_pr_s]
  · refine ⟨⟨by show q4 < q4 + 1; omega, by omega, ?_⟩, ?_⟩
    · simp (disch := omega) only [dq_k_pi, dq_k_pr, dw_nw_k]
    · simp (disch := omega) only [dq_l_pi, dq_l_pr, dw_nw_l]
  · rw [dq_i_pi_s]
/-- what nobody writes -/
def dq_sh (ι : Nat → Nat) (a : Nat → Int32) (nc k : Nat) : Prop := k = ι 0 ∨ k = ι 2 ∨ ∃ q, q < nc ∧ (k = ι (30 + q) ∨ k = ι (40 + q) ∨ ∃ l, l < pu_nl a q ∧ k = ι (50 + 8 * q + l))
def dq_no (k j : Nat) : Prop := False
theorem dq_I_no (F : dq_fr dq_no dq_no Y Y') (I : dq_I Y th ι a w h nb nc) : dq_I Y' th ι a w h nb nc := dq_I_fr F I (fun _ z => z) (fun _ _ z => z) (fun _ _ _ => ⟨fun z => z, fun z => z⟩)
theorem dq_fr_no {Si Sr : Nat → Nat → Prop} (F : dq_fr Si Sr Y' Y'') (hi : ∀ k j, Si k j → dw_n Y ≤ k) (hr : ∀ k j, Sr k j → dw_n Y ≤ k) (F0 : dq_fr dq_no dq_no Y Y') : dq_fr dq_no dq_no Y Y'' := dq_fr_trans F0 F (fun k j hk z => absurd (hi k j z) (by omega)) (fun k j hk z => absurd (hr k j z) (by omega))
set_option maxHeartbeats 4000000 in
theorem dq_copy {Q : Nat × dw_S → Prop} (H : pu_WF a w h nb nc) (S : dq_sm a w h nc) (hnb : nb ≤ 2) (I : dq_I Y th ι a w h nb nc) (hn : 1000 < n) (hQ : ∀ t κ Y', dq_I Y' t κ a w h nb nc → dq_fr dq_no dq_no Y Y' → (∀ k, dq_my t κ nb nc k ∨ k = κ 3 ∨ k = κ 4 → dw_n Y ≤ k) → (∀ k, dq_sh κ a nc k → dq_sh ι a nc k) → Q (t, Y')) : dw_P_X13_copy n th Y Q := by
  obtain ⟨l1, l2, l3, l4⟩ := dq_lens H
  obtain ⟨S1, S2, S3⟩ := S
  have hth := I.1.1
  have hth4 := I.1.2.1
  unfold dw_P_X13_copy
  refine fun t ht => dq_lt (dq_init (dq_is_new (by omega) ht) (fun j => dq_i_nw_s) (fun Y1 ι0 I0 F0 hι0 => ?_))
  have hn2 : dw_n (dw_nw Y t 13 0 (fun _ => 0) (fun _ => none)) = t + 1 := rfl
  have F1 : dq_fr dq_no dq_no Y Y1 := dq_fr_no F0 (fun k j z => by rw [z]; exact ht) (fun k j z => by rw [z]; exact ht) (dq_fr_nw dq_fr_refl ht)
  have hm5 := hι0 5 (Nat.le_refl _)
  rw [hn2] at hm5
  obtain ⟨It, -, ⟨-, -, -, -, -, rn⟩, -, -, -, ⟨N1, -⟩⟩ := I0
  clear F0 hι0 hn2
  have hnow := N1.1.1
  obtain ⟨Is, ⟨f0, f1, f7, f8, f9, f10⟩, ⟨r2, r3, r4, r5, r6, r12⟩, ⟨⟨m1, m1c⟩, ⟨m2, m2c⟩, m3, m3c⟩, ⟨b1, b2⟩, ⟨c1, c2⟩, n1, n2⟩ := id (dq_I_no F1 I)
  refine dq_ck Is (dq_ck It (dq_lt (dq_ck Is (dq_ck It (dq_lt (dq_ck Is (dq_nn r2 (dq_ck It (dq_lt (dq_ck Is (dq_nn (x := ι 1) ?_ (dq_ck ?_ (fun d hd => dq_lt ?_)))))))))))))
  · rw [dq_r_pr_k (by omega)]; exact r3
  · refine ⟨⟨m2.1, fun i hi => ?_⟩, by omega, ?_⟩
    · have hi : i < dw_l Y1 (ι 1) := hi
      rw [m2.2] at hi
      have e : dw_i (dw_pr (dw_pi (dw_pi Y1 t 0 (dw_i Y1 th 0)) t 1 (dw_i (dw_pi Y1 t 0 (dw_i Y1 th 0)) th 1)) t 2 (some (ι 0))) (ι 1) i = a (408 + i) := by
        rw [dq_i_pr, dq_i_pi_k (dq_is_ne m2.1 It (by decide)), dq_i_pi_k (dq_is_ne m2.1 It (by decide))]
        exact m2c i hi
      rw [e]
      rcases H.2.2.2.1.2.1 i (by omega) with z | z <;> rw [z] <;> rfl
    · show 32 + dw_l Y1 (ι 1) ≤ 86
      rw [m2.2]; omega
  have hlu : dw_l (dw_pr (dw_pi (dw_pi Y1 t 0 (dw_i Y1 th 0)) t 1 (dw_i (dw_pi Y1 t 0 (dw_i Y1 th 0)) th 1)) t 2 (some (ι 0))) (ι 1) = w * h := m2.2
  have hiu : ∀ c, c < w * h → dw_i (dw_pr (dw_pi (dw_pi Y1 t 0 (dw_i Y1 th 0)) t 1 (dw_i (dw_pi Y1 t 0 (dw_i Y1 th 0)) th 1)) t 2 (some (ι 0))) (ι 1) c = a (408 + c) := fun c hc => by
    rw [dq_i_pr, dq_i_pi_k (dq_is_ne m2.1 It (by decide)), dq_i_pi_k (dq_is_ne m2.1 It (by decide))]
    exact m2c c hc
  have hdn : dw_n Y1 ≤ d := hd
  have htn := It.1
  have hyu : ∀ j, dw_i (dw_pr (dw_pi (dw_pi Y1 t 0 (dw_i Y1 th 0)) t 1 (dw_i (dw_pi Y1 t 0 (dw_i Y1 th 0)) th 1)) t 2 (some (ι 0))) t j = if j = 1 then Int32.ofNat h else if j = 0 then Int32.ofNat w else dw_i Y1 t j := by
    intro j
    rw [dq_i_pr]
    by_cases e : j = 1
    · rw [e, dq_i_pi_s, if_pos rfl, dq_i_pi_k (by omega)]; exact f1
    · rw [dq_i_pi_j e, if_neg e]
      by_cases e0 : j = 0
      · rw [e0, dq_i_pi_s, if_pos rfl]; exact f0
      · rw [dq_i_pi_j e0, if_neg e0]
  have Fu : dq_fr (fun k _ => k = t) (fun k _ => k = t) Y1 (dw_pr (dw_pi (dw_pi Y1 t 0 (dw_i Y1 th 0)) t 1 (dw_i (dw_pi Y1 t 0 (dw_i Y1 th 0)) th 1)) t 2 (some (ι 0))) := dq_fr_pr (dq_fr_pi (dq_fr_pi dq_fr_refl (fun _ => rfl)) (fun _ => rfl)) (fun _ => rfl)
  have hru : ∀ j, dw_r (dw_pr (dw_pi (dw_pi Y1 t 0 (dw_i Y1 th 0)) t 1 (dw_i (dw_pi Y1 t 0 (dw_i Y1 th 0)) th 1)) t 2 (some (ι 0))) t j = if j = 2 then some (ι 0) else dw_r Y1 t j := by
    intro j
    by_cases e : j = 2
    · rw [e, dq_r_pr_s, if_pos rfl]
    · rw [dq_r_pr_j e, if_neg e]; rfl
  have hnu : dw_n (dw_pr (dw_pi (dw_pi Y1 t 0 (dw_i Y1 th 0)) t 1 (dw_i (dw_pi Y1 t 0 (dw_i Y1 th 0)) th 1)) t 2 (some (ι 0))) = dw_n Y1 := rfl
  generalize dw_pr (dw_pi (dw_pi Y1 t 0 (dw_i Y1 th 0)) t 1 (dw_i (dw_pi Y1 t 0 (dw_i Y1 th 0)) th 1)) t 2 (some (ι 0)) = Yu at *
  rw [hlu]
  have Fu' : dq_fr dq_no dq_no Y Yu := dq_fr_no Fu (fun k j z => by rw [z]; exact ht) (fun k j z => by rw [z]; exact ht) F1
  have hTu := dq_is_fr Fu It
  have hNu := dq_A1_fr Fu N1
  have eN5 : ι0 5 ≠ t := dq_is_ne N1.1 It (by decide)
  have eD : dw_n Yu ≤ d := by rw [hnu]; exact hdn
  -- dug, marks
  have i10 : dw_is (dw_nw Yu d 21 (w * h) (dw_i Yu (ι 1)) (fun _ => none)) t 13 := dq_is_nw hTu eD
  have F10 : dq_fr dq_no dq_no Y (dw_nw Yu d 21 (w * h) (dw_i Yu (ι 1)) (fun _ => none)) := dq_fr_nw Fu' eD
  have I10 := dq_I_no F10 I
  have hTt : ∀ k j : Nat, k = t → dw_n Y ≤ k := fun k j z => by rw [z]; exact ht
  refine dq_ck (dq_is_new (by omega) eD) (dq_ck i10 (dq_lt (dq_ck I10.1 (dq_nn (x := ι 2) ?_ (dq_ck i10 (dq_lt (dq_ck I10.1 (dq_nn (x := ι 3) ?_ (dq_ck I10.2.2.2.2.1.1.1 (dq_ck ?_ (fun b hb => dq_lt ?_)))))))))))
  · rw [dq_r_pr_k (by omega)]; exact I10.2.2.1.2.2.1
  · rw [dq_r_pr_k (by omega), dq_r_pr_k (by omega)]; exact I10.2.2.1.2.2.2.1
  · have e : dw_l (dw_pr (dw_pr (dw_nw Yu d 21 (w * h) (dw_i Yu (ι 1)) (fun _ => none)) t 3 (some d)) t 4 (some (ι 2))) (ι 3) = nb := I10.2.2.2.2.1.1.2
    rw [e, pu_n (by omega)]
    exact ⟨⟨pu_nn (by omega), by omega⟩, by omega, by omega⟩
  have eb3 : dw_l (dw_pr (dw_pr (dw_nw Yu d 21 (w * h) (dw_i Yu (ι 1)) (fun _ => none)) t 3 (some d)) t 4 (some (ι 2))) (ι 3) = nb := I10.2.2.2.2.1.1.2
  rw [eb3, pu_n (by omega)]
  have hb' : d + 1 ≤ b := hb
  have Fx : dq_fr dq_no dq_no Y (dw_pr (dw_pr (dw_nw Yu d 21 (w * h) (dw_i Yu (ι 1)) (fun _ => none)) t 3 (some d)) t 4 (some (ι 2))) := dq_fr_no (Si := dq_no) (Sr := fun k _ => k = t) (dq_fr_pr (dq_fr_pr dq_fr_refl (fun _ => rfl)) (fun _ => rfl)) (fun k j z => z.elim) hTt F10
  have hxi : ∀ j, dw_i (dw_pr (dw_pr (dw_nw Yu d 21 (w * h) (dw_i Yu (ι 1)) (fun _ => none)) t 3 (some d)) t 4 (some (ι 2))) t j = dw_i Yu t j := fun j => by rw [dq_i_pr, dq_i_pr, dq_i_nw_n (by omega)]
  have hxr : ∀ j, dw_r (dw_pr (dw_pr (dw_nw Yu d 21 (w * h) (dw_i Yu (ι 1)) (fun _ => none)) t 3 (some d)) t 4 (some (ι 2))) t j = if j = 4 then some (ι 2) else if j = 3 then some d else dw_r Yu t j := by
    intro j
    by_cases e4 : j = 4
    · rw [e4, dq_r_pr_s, if_pos rfl]
    · rw [dq_r_pr_j e4, if_neg e4]
      by_cases e3 : j = 3
      · rw [e3, dq_r_pr_s, if_pos rfl]
      · rw [dq_r_pr_j e3, if_neg e3, dq_r_nw_n (by omega)]
  have hxd : dq_A1 (dw_pr (dw_pr (dw_nw Yu d 21 (w * h) (dw_i Yu (ι 1)) (fun _ => none)) t 3 (some d)) t 4 (some (ι 2))) d 21 (w * h) := (dq_A1_new (by omega) eD : dq_A1 (dw_nw Yu d 21 (w * h) (dw_i Yu (ι 1)) (fun _ => none)) d 21 (w * h))
  have hxdc : ∀ c, c < w * h → dw_i (dw_pr (dw_pr (dw_nw Yu d 21 (w * h) (dw_i Yu (ι 1)) (fun _ => none)) t 3 (some d)) t 4 (some (ι 2))) d c = a (408 + c) := fun c hc => by rw [dq_i_pr, dq_i_pr, dq_i_nw_s]; exact hiu c hc
  have hxN : dq_A1 (dw_pr (dw_pr (dw_nw Yu d 21 (w * h) (dw_i Yu (ι 1)) (fun _ => none)) t 3 (some d)) t 4 (some (ι 2))) (ι0 5) 20 9 := (dq_A1_fr (Si := dq_no) (Sr := dq_no) (dq_fr_nw dq_fr_refl eD) hNu : dq_A1 (dw_nw Yu d 21 (w * h) (dw_i Yu (ι 1)) (fun _ => none)) (ι0 5) 20 9)
  have hxn : dw_n (dw_pr (dw_pr (dw_nw Yu d 21 (w * h) (dw_i Yu (ι 1)) (fun _ => none)) t 3 (some d)) t 4 (some (ι 2))) = d + 1 := rfl
  have hxT : dw_is (dw_pr (dw_pr (dw_nw Yu d 21 (w * h) (dw_i Yu (ι 1)) (fun _ => none)) t 3 (some d)) t 4 (some (ι 2))) t 13 := i10
  clear F10 I10 i10 Fu hlu hiu
  generalize dw_pr (dw_pr (dw_nw Yu d 21 (w * h) (dw_i Yu (ι 1)) (fun _ => none)) t 3 (some d)) t 4 (some (ι 2)) = Yx at *
  rw [hxn] at hb
  -- the row of bends
  have hbx : dw_n Yx ≤ b := by omega
  refine dq_ck (dq_is_nw hxT hbx) (dq_lt (dq_lt ?_))
  have Fl : dq_fr dq_no dq_no Y (dw_pr (dw_nw Yx b 26 nb (fun _ => 0) (fun _ => none)) t 5 (some b)) := dq_fr_no (Si := dq_no) (Sr := fun k _ => k = t) (dq_fr_pr dq_fr_refl (fun _ => rfl)) (fun k j z => z.elim) hTt (dq_fr_nw Fx hbx)
  have hli : ∀ j, dw_i (dw_pr (dw_nw Yx b 26 nb (fun _ => 0) (fun _ => none)) t 5 (some b)) t j = dw_i Yu t j := fun j => by rw [dq_i_pr, dq_i_nw_n (by omega)]; exact hxi j
  have hlr : ∀ j, dw_r (dw_pr (dw_nw Yx b 26 nb (fun _ => 0) (fun _ => none)) t 5 (some b)) t j = if j = 5 then some b else if j = 4 then some (ι 2) else if j = 3 then some d else dw_r Yu t j := by
    intro j
    by_cases e : j = 5
    · rw [e, dq_r_pr_s, if_pos rfl]
    · rw [dq_r_pr_j e, if_neg e, dq_r_nw_n (by omega)]; exact hxr j
  have Fxl : dq_fr dq_no (fun k _ => k = t) Yx (dw_pr (dw_nw Yx b 26 nb (fun _ => 0) (fun _ => none)) t 5 (some b)) := dq_fr_pr (dq_fr_nw dq_fr_refl hbx) (fun _ => rfl)
  have hlb : dq_A1 (dw_pr (dw_nw Yx b 26 nb (fun _ => 0) (fun _ => none)) t 5 (some b)) b 26 nb := (dq_A1_new (by omega) hbx : dq_A1 (dw_nw Yx b 26 nb (fun _ => 0) (fun _ => none)) b 26 nb)
  have hln : dw_n (dw_pr (dw_nw Yx b 26 nb (fun _ => 0) (fun _ => none)) t 5 (some b)) = b + 1 := rfl
  have hld : ∀ c, c < w * h → dw_i (dw_pr (dw_nw Yx b 26 nb (fun _ => 0) (fun _ => none)) t 5 (some b)) d c = a (408 + c) := fun c hc => by rw [dq_i_pr, dq_i_nw_n (by omega)]; exact hxdc c hc
  have hlT := dq_is_fr Fxl hxT
  have hldA := dq_A1_fr Fxl hxd
  have hlN := dq_A1_fr Fxl hxN
  clear Fxl hxd hxN hxT hxdc hxr hxi Fx hTu hNu Fu'
  generalize dw_pr (dw_nw Yx b 26 nb (fun _ => 0) (fun _ => none)) t 5 (some b) = Yl at *
  have hbn := hlb.1.1
  refine dq_for nb (fun i v => v.1 = Int32.ofNat i ∧ dq_fr dq_no (fun k _ => k = b) Yl v.2.1 ∧ v.2.2.1 = 9 + i ∧ v.2.2.2 = 32 + w * h + nb + 5 * i ∧ ∃ β : Nat → Nat, (∀ k, k < i → dw_r v.2.1 b k = some (β k) ∧ dq_A1 v.2.1 (β k) 20 5 ∧ (∀ j, j < 5 → dw_i v.2.1 (β k) j = a (816 + 5 * k + j)) ∧ b < β k) ∧ ∀ k, k < i → ∀ k', k' < i → k ≠ k' → β k ≠ β k') (fun kk i v hi hv hkk => ?_) (fun kk v hv => ?_) (by omega) ⟨rfl, dq_fr_refl, rfl, rfl, fun _ => 0, fun k hk => absurd hk (Nat.not_lt_zero _), fun k hk => absurd hk (Nat.not_lt_zero _)⟩
  all_goals
    obtain ⟨v1, Yv, cc, ss⟩ := v
    obtain ⟨hv1, Fv, hcc, hss, β, hβ, hβd⟩ := hv
    dsimp only [] at hv1 Fv hcc hss hβ
    dsimp only []
    subst hv1
    have Fv' : dq_fr dq_no dq_no Y Yv := dq_fr_no Fv (fun k j z => z.elim) (fun k j z => by rw [z]; omega) Fl
    have Iv := dq_I_no Fv' I
    obtain ⟨Isv, -, ⟨-, -, -, q5, q6, -⟩, -, ⟨B1, B2⟩, ⟨C1, C2⟩, -⟩ := id Iv
    have hTv := dq_is_fr Fv hlT
    have hbv := dq_A1_fr Fv hlb
    have hrt : ∀ j, dw_r Yv t j = dw_r Yl t j := fun j => Fv.2.2.2.2 t j hlT.1 (dq_is_ne hlT hlb.1 (by decide))
  · obtain ⟨d1, d2, d3⟩ := B2 i hi
    refine dq_ck Isv (dq_nn q5 (dq_ck B1.1 ?_))
    rw [B1.2]
    refine dq_iff (by rw [pu_le (by omega) (by omega)]; omega) (dq_ck hTv (dq_nn (x := b) (by rw [hrt, hlr]; rfl) (dq_ck Isv (dq_nn q5 (dq_ck (dq_A1_ok B1 hi (by omega)) (dq_nn (by rw [pu_n (by omega)]; exact d1) (dq_ck ⟨⟨d2.1, fun i _ => rfl⟩, by omega, by rw [d2.2]; omega⟩ (fun x hx => dq_lt ?_))))))))
    have hx2 := Fv.2.1
    have A2 : dq_A1 (dw_nw Yv x 20 (dw_l Yv (ι (10 + i))) (dw_i Yv (ι (10 + i))) (fun _ => none)) b 26 nb := dq_A1_fr (Si := dq_no) (Sr := dq_no) (dq_fr_nw dq_fr_refl hx) hbv
    refine dq_ck (dq_is_new (by omega) hx) (dq_ck ⟨A2.1, (dq_A1_ok A2 hi (by omega)).2, dq_is_new (by omega) hx⟩ (dq_lt (dq_lt (hkk _ ⟨pu_add i 1, dq_fr_pr (dq_fr_nw Fv hx) (fun _ => rfl), by dsimp only []; omega, by dsimp only []; rw [d2.2]; omega, va_up β i x, fun k hk => ?_, fun k hk k' hk' hne => ?_⟩))))
    · dsimp only []
      rw [pu_n (by omega), d2.2]
      by_cases e : k = i
      · subst e
        have ev : va_up β k x k = x := by unfold va_up; rw [if_pos rfl]
        rw [ev]
        refine ⟨dq_r_pr_s, (dq_A1_new (by omega) hx : dq_A1 (dw_nw Yv x 20 5 (dw_i Yv (ι (10 + k))) (fun _ => none)) x 20 5), fun j hj => ?_, by omega⟩
        rw [dq_i_pr, dq_i_nw_s]; exact d3 j hj
      · obtain ⟨y1, y2, y3, y4⟩ := hβ k (by omega)
        have ev : va_up β i x k = β k := by unfold va_up; rw [if_neg e]
        have hbx2 : β k < x := by have := y2.1.1; omega
        rw [ev]
        refine ⟨?_, dq_A1_fr (Si := dq_no) (Sr := fun k _ => k = b) (dq_fr_pr (dq_fr_nw dq_fr_refl hx) (fun _ => rfl)) y2, fun j hj => ?_, y4⟩
        · rw [dq_r_pr_j e, dq_r_nw_n (by omega)]; exact y1
        · rw [dq_i_pr, dq_i_nw_n (by omega)]; exact y3 j hj
    · have lt : ∀ k, k < i → β k < x := fun k hk => by have := (hβ k hk).2.1.1.1; omega
      unfold va_up
      by_cases e : k = i
      · rw [if_pos e, if_neg (by omega)]
        have := lt k' (by omega)
        omega
      · rw [if_neg e]
        by_cases e' : k' = i
        · rw [if_pos e']
          have := lt k (by omega)
          omega
        · rw [if_neg e']
          exact hβd k (by omega) k' (by omega) hne
  refine dq_ck Isv (dq_nn q5 (dq_ck B1.1 ?_))
  rw [B1.2]
  refine dq_ift ((pu_le (by omega) (by omega)).mpr (Nat.le_refl _)) (dq_ck Isv (dq_nn q6 (dq_ck C1.1 ?_)))
  rw [C1.2, pu_n (by omega)]
  refine dq_ck ⟨⟨pu_nn (by omega), by omega⟩, by omega, by omega⟩ (fun e he => dq_lt ?_)
  have hve := Fv.2.1
  refine dq_ck (dq_is_nw hTv he) (dq_lt (dq_lt ?_))
  -- the row of clues
  have Fm : dq_fr dq_no dq_no Y (dw_pr (dw_nw Yv e 24 nc (fun _ => 0) (fun _ => none)) t 6 (some e)) := dq_fr_no (Si := dq_no) (Sr := fun k _ => k = t) (dq_fr_pr dq_fr_refl (fun _ => rfl)) (fun k j z => z.elim) hTt (dq_fr_nw Fv' he)
  have Fvm : dq_fr dq_no (fun k _ => k = t) Yv (dw_pr (dw_nw Yv e 24 nc (fun _ => 0) (fun _ => none)) t 6 (some e)) := dq_fr_pr (dq_fr_nw dq_fr_refl he) (fun _ => rfl)
  have hmi : ∀ j, dw_i (dw_pr (dw_nw Yv e 24 nc (fun _ => 0) (fun _ => none)) t 6 (some e)) t j = dw_i Yu t j := fun j => by
    rw [dq_i_pr, dq_i_nw_n (by have := hTv.1; omega), Fv.2.2.2.1 t j hlT.1 (fun z => z)]; exact hli j
  have hmr : ∀ j, dw_r (dw_pr (dw_nw Yv e 24 nc (fun _ => 0) (fun _ => none)) t 6 (some e)) t j = if j = 6 then some e else if j = 5 then some b else if j = 4 then some (ι 2) else if j = 3 then some d else dw_r Yu t j := by
    intro j
    by_cases e' : j = 6
    · rw [e', dq_r_pr_s, if_pos rfl]
    · rw [dq_r_pr_j e', if_neg e', dq_r_nw_n (by have := hTv.1; omega), hrt]; exact hlr j
  have hme : dq_A1 (dw_pr (dw_nw Yv e 24 nc (fun _ => 0) (fun _ => none)) t 6 (some e)) e 24 nc := (dq_A1_new (by omega) he : dq_A1 (dw_nw Yv e 24 nc (fun _ => 0) (fun _ => none)) e 24 nc)
  have hmT := dq_is_fr Fvm hTv
  have hmb := dq_A1_fr Fvm hbv
  have hmN := dq_A1_fr Fvm (dq_A1_fr Fv hlN)
  have hmd := dq_A1_fr Fvm (dq_A1_fr Fv hldA)
  have hmdc : ∀ c, c < w * h → dw_i (dw_pr (dw_nw Yv e 24 nc (fun _ => 0) (fun _ => none)) t 6 (some e)) d c = a (408 + c) := fun c hc => by
    rw [dq_i_pr, dq_i_nw_n (by have := hldA.1.1; omega), Fv.2.2.2.1 d c hldA.1.1 (fun z => z)]; exact hld c hc
  have hmβ : ∀ k, k < nb → dw_r (dw_pr (dw_nw Yv e 24 nc (fun _ => 0) (fun _ => none)) t 6 (some e)) b k = some (β k) ∧ dq_A1 (dw_pr (dw_nw Yv e 24 nc (fun _ => 0) (fun _ => none)) t 6 (some e)) (β k) 20 5 ∧ (∀ j, j < 5 → dw_i (dw_pr (dw_nw Yv e 24 nc (fun _ => 0) (fun _ => none)) t 6 (some e)) (β k) j = a (816 + 5 * k + j)) ∧ b < β k ∧ β k < e := fun k hk => by
    obtain ⟨y1, y2, y3, y4⟩ := hβ k hk
    have y5 := y2.1.1
    refine ⟨?_, dq_A1_fr Fvm y2, fun j hj => ?_, y4, by omega⟩
    · rw [Fvm.2.2.2.2 b k hbv.1.1 (dq_is_ne hbv.1 hTv (by decide))]; exact y1
    · rw [dq_i_pr, dq_i_nw_n (by omega)]; exact y3 j hj
  have hmn : dw_n (dw_pr (dw_nw Yv e 24 nc (fun _ => 0) (fun _ => none)) t 6 (some e)) = e + 1 := rfl
  clear Fvm Fv Fv' Iv Isv q5 q6 B1 B2 C1 C2 hTv hbv hrt hβ
  generalize dw_pr (dw_nw Yv e 24 nc (fun _ => 0) (fun _ => none)) t 6 (some e) = Ym at *
  refine dq_for nc (fun i v => v.1 = Int32.ofNat i ∧ dq_fr dq_no (fun k _ => k = e) Ym v.2.1 ∧ v.2.2.1 = 10 + nb + 3 * i ∧ v.2.2.2 = 32 + w * h + nb + 5 * nb + nc + 3 * i ∧ ∃ γ : Nat → Nat, (∀ q, q < i → dw_r v.2.1 e q = some (γ q) ∧ dw_is v.2.1 (γ q) 12 ∧ dw_i v.2.1 (γ q) 2 = a (pu_cl q) ∧ dw_r v.2.1 (γ q) 0 = some (ι (30 + q)) ∧ dw_r v.2.1 (γ q) 1 = some (ι (40 + q)) ∧ e < γ q) ∧ ∀ k, k < i → ∀ k', k' < i → k' ≠ k → γ k' ≠ γ k) (fun kk i v hi hv hkk => ?_) (fun kk v hv => ?_) (by omega) ⟨rfl, dq_fr_refl, by dsimp only []; omega, by dsimp only []; omega, fun _ => 0, fun k hk => absurd hk (Nat.not_lt_zero _), fun k hk => absurd hk (Nat.not_lt_zero _)⟩
  all_goals
    obtain ⟨v1, Yv, cc, ss⟩ := v
    obtain ⟨hv1, Fv, hcc, hss, γ, hγ, hγd⟩ := hv
    dsimp only [] at hv1 Fv hcc hss hγ
    dsimp only []
    subst hv1
    have hen := hme.1.1
    have Fv' : dq_fr dq_no dq_no Y Yv := dq_fr_no Fv (fun k j z => z.elim) (fun k j z => by rw [z]; omega) Fm
    have Iv := dq_I_no Fv' I
    obtain ⟨Isv, ⟨g0, g1, g7, g8, g9, g10⟩, ⟨-, -, -, -, q6, -⟩, -, -, ⟨C1, C2⟩, -⟩ := id Iv
    have hTv := dq_is_fr Fv hmT
    have hev := dq_A1_fr Fv hme
    have hrt : ∀ j, dw_r Yv t j = dw_r Ym t j := fun j => Fv.2.2.2.2 t j hmT.1 (dq_is_ne hmT hme.1 (by decide))
    have hx2 := Fv.2.1
    refine dq_ck Isv (dq_nn q6 (dq_ck C1.1 ?_))
    rw [C1.2]
  · obtain ⟨⟨d1, d2, d3, d4, d5⟩, -⟩ := C2 i hi
    have d201 := d2.1
    refine dq_iff (by rw [pu_le (by omega) (by omega)]; omega) (dq_ck ⟨by omega, by omega⟩ (fun x hx => dq_lt (dq_ck ⟨by omega, by omega⟩ (dq_cinit (dq_is_new (by omega) hx) (fun Yc s l Fc _ _ _ _ _ _ _ _ => ?_)))))
    have F35 : dq_fr dq_no (fun k _ => k = e) Ym (dw_nw Yv x 12 0 (fun _ => 0) (fun _ => none)) := dq_fr_nw Fv hx
    have hxe : dw_n Ym ≤ x := by omega
    have FcM : dq_fr dq_no (fun k _ => k = e) Ym Yc := dq_fr_trans F35 Fc (fun k j hk z => by omega) (fun k j hk z => by omega)
    have hTx : dw_is Yc x 12 := dq_is_fr Fc (dq_is_new (by omega) hx)
    have Fc' : dq_fr dq_no dq_no Y Yc := dq_fr_no FcM (fun k j z => z.elim) (fun k j z => by rw [z]; omega) Fm
    have Fcx : dq_fr dq_no dq_no Yv Yc := dq_fr_trans (dq_fr_nw dq_fr_refl hx) Fc (fun k j hk z => by omega) (fun k j hk z => by omega)
    obtain ⟨Isc, -, ⟨-, -, -, -, q6c, -⟩, -, -, ⟨C1c, C2c⟩, -⟩ := dq_I_no Fc' I
    obtain ⟨⟨e1, e2, e3, e4, e5⟩, -⟩ := C2c i hi
    have hi20 : ι (20 + i) ≠ x := by omega
    have hthx : th ≠ x := by omega
    have hi4x : ι 4 ≠ x := by have := C1.1.1; omega
    have htx : t ≠ x := by have := hTv.1; omega
    have hex : e ≠ x := by have := hev.1.1; omega
    have ok4 : dw_is Yc (ι 4) 24 ∧ tw_ok (Int32.ofNat i) (dw_l Yc (ι 4)) = true := dq_A1_ok C1c hi (by omega)
    have hpn : Int32.toNatClampNeg (Int32.ofNat i) = i := pu_n (by omega)
    rw [hpn]
    have hTc := dq_is_fr Fcx hTv
    have hec := dq_A1_fr Fcx hev
    refine dq_ck Isc (dq_nn q6c (dq_ck ok4 (dq_nn e1 (dq_ck e2 (dq_nn e4 (dq_ck hTx (dq_lt (dq_ck Isc (dq_nn (x := ι 4) ?_ (dq_ck ok4 (dq_nn (x := ι (20 + i)) ?_ (dq_ck e2 (dq_nn (x := ι (40 + i)) ?_ (dq_ck hTx (dq_lt (dq_ck Isc (dq_nn (x := ι 4) ?_ (dq_ck ok4 (dq_nn (x := ι (20 + i)) ?_ (dq_ck e2 (dq_ck ?_ (dq_ck hTx (dq_lt (dq_ck hTc (dq_nn (x := e) ?_ (dq_ck ⟨hec.1, (dq_A1_ok hec hi (by omega)).2, fun v ev => ?_⟩ (dq_lt (dq_lt (hkk _ ⟨pu_add i 1, ?_, by dsimp only []; omega, by dsimp only []; omega, va_up γ i x, fun k hk => ?_, fun k hk k' hk' hne => ?_⟩)))))))))))))))))))))))))))))
    · rw [dq_r_pr_k hthx]; exact q6c
    · rw [dq_r_pr_k hi4x]; exact e1
    · rw [dq_r_pr_k hi20]; exact e5
    · rw [dq_r_pr_k hthx, dq_r_pr_k hthx]; exact q6c
    · rw [dq_r_pr_k hi4x, dq_r_pr_k hi4x]; exact e1
    · rw [dq_i_pr, dq_i_pr, e3]
      rcases dq_use01 H hi with z | z <;> rw [z] <;> decide
    · rw [dq_r_pi, dq_r_pr_k htx, dq_r_pr_k htx, Fcx.2.2.2.2 t 6 hTv.1 (fun z => z), hrt, hmr]; rfl
    · cases ev; exact hTx
    · refine dq_fr_pr (dq_fr_pi (dq_fr_pr (dq_fr_pr FcM (fun z => absurd z (by omega))) (fun z => absurd z (by omega))) (fun z => absurd z (by omega))) (fun _ => rfl)
    · dsimp only []
      by_cases ek : k = i
      · subst ek
        have ev : va_up γ k x k = x := by unfold va_up; rw [if_pos rfl]
        rw [ev]
        refine ⟨dq_r_pr_s, hTx, ?_, ?_, ?_, by omega⟩
        · rw [dq_i_pr, dq_i_pi_s, dq_i_pr, dq_i_pr]; exact e3
        · rw [dq_r_pr_k (by omega), dq_r_pi, dq_r_pr_j (by omega), dq_r_pr_s]
        · rw [dq_r_pr_k (by omega), dq_r_pi, dq_r_pr_s]
      · obtain ⟨y1, y2, y3, y4, y5, y6⟩ := hγ k (by omega)
        have ev : va_up γ i x k = γ k := by unfold va_up; rw [if_neg ek]
        have hgx : γ k ≠ x := by have := y2.1; omega
        have hge : γ k ≠ e := by omega
        have y2' := y2.1
        rw [ev]
        have y2c := dq_is_fr Fcx y2
        refine ⟨?_, y2c, ?_, ?_, ?_, y6⟩
        · rw [dq_r_pr_j ek, dq_r_pi, dq_r_pr_k hex, dq_r_pr_k hex, Fcx.2.2.2.2 e k hev.1.1 (fun z => z)]; exact y1
        · rw [dq_i_pr, dq_i_pi_k hgx, dq_i_pr, dq_i_pr, Fcx.2.2.2.1 _ _ y2' (fun z => z)]; exact y3
        · rw [dq_r_pr_k hge, dq_r_pi, dq_r_pr_k hgx, dq_r_pr_k hgx, Fcx.2.2.2.2 _ _ y2' (fun z => z)]; exact y4
        · rw [dq_r_pr_k hge, dq_r_pi, dq_r_pr_k hgx, dq_r_pr_k hgx, Fcx.2.2.2.2 _ _ y2' (fun z => z)]; exact y5
    · have lt : ∀ k, k < i → γ k < x := fun k hk => by have := (hγ k hk).2.1.1; omega
      unfold va_up
      by_cases ek : k = i
      · rw [if_pos ek, if_neg (by omega)]
        have := lt k' (by omega)
        omega
      · rw [if_neg ek]
        by_cases ek' : k' = i
        · rw [if_pos ek']
          have := lt k (by omega)
          omega
        · rw [if_neg ek']
          exact hγd k (by omega) k' (by omega) hne
  have hbu := hmβ
  refine dq_ift ((pu_le (by omega) (by omega)).mpr (Nat.le_refl _)) (dq_ck Isv (dq_ck hTv (dq_lt (dq_ck Isv (dq_ck hTv (dq_lt (dq_ck Isv (dq_ck hTv (dq_lt (dq_ck Isv (dq_ck hTv (dq_lt (dq_ck ⟨by omega, by omega⟩ ?_)))))))))))))
  have htth : th ≠ t := by omega
  have e7 : dw_i Yv th 7 = a 4 := g7
  have e8 : dw_i (dw_pi Yv t 7 (dw_i Yv th 7)) th 8 = a 5 := by rw [dq_i_pi_k htth]; exact g8
  have e9 : dw_i (dw_pi (dw_pi Yv t 7 (dw_i Yv th 7)) t 8 (dw_i (dw_pi Yv t 7 (dw_i Yv th 7)) th 8)) th 9 = a 6 := by rw [dq_i_pi_k htth, dq_i_pi_k htth]; exact g9
  have e10 : dw_i (dw_pi (dw_pi (dw_pi Yv t 7 (dw_i Yv th 7)) t 8 (dw_i (dw_pi Yv t 7 (dw_i Yv th 7)) th 8)) t 9 (dw_i (dw_pi (dw_pi Yv t 7 (dw_i Yv th 7)) t 8 (dw_i (dw_pi Yv t 7 (dw_i Yv th 7)) th 8)) th 9)) th 10 = dw_i Yv th 10 := by rw [dq_i_pi_k htth, dq_i_pi_k htth, dq_i_pi_k htth]
  rw [e10, e9, e8, e7]
  clear e10 e9 e8 e7
  have Fz : dq_fr (fun k _ => k = t) dq_no Yv (dw_pi (dw_pi (dw_pi (dw_pi Yv t 7 (a 4)) t 8 (a 5)) t 9 (a 6)) t 10 (dw_i Yv th 10)) := dq_fr_pi (dq_fr_pi (dq_fr_pi (dq_fr_pi dq_fr_refl (fun _ => rfl)) (fun _ => rfl)) (fun _ => rfl)) (fun _ => rfl)
  have FzY : dq_fr dq_no dq_no Y (dw_pi (dw_pi (dw_pi (dw_pi Yv t 7 (a 4)) t 8 (a 5)) t 9 (a 6)) t 10 (dw_i Yv th 10)) := dq_fr_no Fz hTt (fun k j z => z.elim) Fv'
  have hzi : ∀ j, j < 7 → dw_i (dw_pi (dw_pi (dw_pi (dw_pi Yv t 7 (a 4)) t 8 (a 5)) t 9 (a 6)) t 10 (dw_i Yv th 10)) t j = dw_i Yu t j := fun j hj => by
    rw [dq_i_pi_j (by omega), dq_i_pi_j (by omega), dq_i_pi_j (by omega), dq_i_pi_j (by omega), Fv.2.2.2.1 t j hmT.1 (fun z => z)]; exact hmi j
  have hz7 : dw_i (dw_pi (dw_pi (dw_pi (dw_pi Yv t 7 (a 4)) t 8 (a 5)) t 9 (a 6)) t 10 (dw_i Yv th 10)) t 7 = a 4 := by simp (disch := omega) only [dq_i_pi_j, dq_i_pi_s]
  have hz8 : dw_i (dw_pi (dw_pi (dw_pi (dw_pi Yv t 7 (a 4)) t 8 (a 5)) t 9 (a 6)) t 10 (dw_i Yv th 10)) t 8 = a 5 := by simp (disch := omega) only [dq_i_pi_j, dq_i_pi_s]
  have hz9 : dw_i (dw_pi (dw_pi (dw_pi (dw_pi Yv t 7 (a 4)) t 8 (a 5)) t 9 (a 6)) t 10 (dw_i Yv th 10)) t 9 = a 6 := by simp (disch := omega) only [dq_i_pi_j, dq_i_pi_s]
  have hz10 : a 6 = 1 → dw_i (dw_pi (dw_pi (dw_pi (dw_pi Yv t 7 (a 4)) t 8 (a 5)) t 9 (a 6)) t 10 (dw_i Yv th 10)) t 10 = a 7 := fun z => by rw [dq_i_pi_s]; exact g10 z
  have hzr : ∀ j, dw_r (dw_pi (dw_pi (dw_pi (dw_pi Yv t 7 (a 4)) t 8 (a 5)) t 9 (a 6)) t 10 (dw_i Yv th 10)) t j = if j = 6 then some e else if j = 5 then some b else if j = 4 then some (ι 2) else if j = 3 then some d else dw_r Yu t j := fun j => (hrt j).trans (hmr j)
  have hTz := dq_is_fr Fz hTv
  have Iz := dq_I_no FzY I
  have zt : ∀ k kd, dw_is Yv k kd → kd ≠ 13 → ∀ j, dw_i (dw_pi (dw_pi (dw_pi (dw_pi Yv t 7 (a 4)) t 8 (a 5)) t 9 (a 6)) t 10 (dw_i Yv th 10)) k j = dw_i Yv k j := fun k kd hk hd j => Fz.2.2.2.1 k j hk.1 (dq_is_ne hk hTv hd)
  have zr : ∀ k j, k < dw_n Yv → dw_r (dw_pi (dw_pi (dw_pi (dw_pi Yv t 7 (a 4)) t 8 (a 5)) t 9 (a 6)) t 10 (dw_i Yv th 10)) k j = dw_r Yv k j := fun k j hk => Fz.2.2.2.2 k j hk (fun z => z)
  generalize dw_pi (dw_pi (dw_pi (dw_pi Yv t 7 (a 4)) t 8 (a 5)) t 9 (a 6)) t 10 (dw_i Yv th 10) = Yz at *
  have κ0 : ∀ x y z, (if x = 0 then ι 0 else if x = 1 then d else if x = 2 then ι 2 else if x = 3 then b else if x = 4 then e else if x = 5 then ι0 5 else if x < 20 then y else if x < 30 then z else ι x) = (if x = 0 then ι 0 else if x = 1 then d else if x = 2 then ι 2 else if x = 3 then b else if x = 4 then e else if x = 5 then ι0 5 else if x < 20 then y else if x < 30 then z else ι x) := fun _ _ _ => rfl
  clear κ0
  generalize hκ : (fun x => if x = 0 then ι 0 else if x = 1 then d else if x = 2 then ι 2 else if x = 3 then b else if x = 4 then e else if x = 5 then ι0 5 else if x < 20 then β (x - 10) else if x < 30 then γ (x - 20) else ι x) = κ
  have k0 : κ 0 = ι 0 := by rw [← hκ]; rfl
  have k1 : κ 1 = d := by rw [← hκ]; rfl
  have k2 : κ 2 = ι 2 := by rw [← hκ]; rfl
  have k3 : κ 3 = b := by rw [← hκ]; rfl
  have k4 : κ 4 = e := by rw [← hκ]; rfl
  have k5 : κ 5 = ι0 5 := by rw [← hκ]; rfl
  have kb : ∀ k, k < nb → κ (10 + k) = β k := fun k hk => by
    rw [← hκ]
    dsimp only []
    rw [if_neg (by omega), if_neg (by omega), if_neg (by omega), if_neg (by omega), if_neg (by omega), if_neg (by omega), if_pos (by omega), show 10 + k - 10 = k by omega]
  have kc : ∀ q, q < nc → κ (20 + q) = γ q := fun q hq => by
    rw [← hκ]
    dsimp only []
    rw [if_neg (by omega), if_neg (by omega), if_neg (by omega), if_neg (by omega), if_neg (by omega), if_neg (by omega), if_neg (by omega), if_pos (by omega), show 20 + q - 20 = q by omega]
  have kr : ∀ j, 30 ≤ j → κ j = ι j := fun j hj => by
    rw [← hκ]
    dsimp only []
    rw [if_neg (by omega), if_neg (by omega), if_neg (by omega), if_neg (by omega), if_neg (by omega), if_neg (by omega), if_neg (by omega), if_neg (by omega)]
  clear hκ
  obtain ⟨-, -, -, ⟨⟨z1, z2⟩, -, z3, z4⟩, -, ⟨-, Z2⟩, -, w2, w3, w4, w5, w6, w7⟩ := id Iz
  have hdv := dq_A1_fr Fv hmd
  have hNv := dq_A1_fr Fv hmN
  have hbv := dq_A1_fr Fv hmb
  have dz := dq_A1_fr Fz hdv
  have nz := dq_A1_fr Fz hNv
  have bz := dq_A1_fr Fz hbv
  have ez := dq_A1_fr Fz hev
  have hβv : ∀ k, k < nb → dw_r Yv b k = some (β k) ∧ dq_A1 Yv (β k) 20 5 ∧ (∀ j, j < 5 → dw_i Yv (β k) j = a (816 + 5 * k + j)) := fun k hk => by
    obtain ⟨y1, y2, y3, -⟩ := hmβ k hk
    refine ⟨?_, dq_A1_fr Fv y2, fun j hj => ?_⟩
    · rw [Fv.2.2.2.2 b k hmb.1.1 (dq_is_ne hmb.1 hme.1 (by decide))]; exact y1
    · rw [Fv.2.2.2.1 _ j y2.1.1 (fun z => z)]; exact y3 j hj
  have hold : ∀ k, k < dw_n Y → ∀ k', dw_n Y ≤ k' → k ≠ k' := fun k hk k' hk' => by omega
  have i2Y : ι 2 < dw_n Y := I.2.2.2.1.2.2.1.1.1
  have i0Y : ι 0 < dw_n Y := I.2.2.2.1.1.1.1.1
  have isY : ∀ q, q < nc → ι (30 + q) < dw_n Y := fun q hq => (I.2.2.2.2.2.1.2 q hq).2.1.1.1.1
  have b1 := dq_is_ne hmN.1 hmb.1 (by decide)
  refine hQ t κ Yz ⟨hTz, ⟨?_, ?_, hz7, hz8, hz9, hz10⟩, ⟨?_, ?_, ?_, ?_, ?_, ?_⟩, ⟨⟨?_, fun c hc => ?_⟩, ⟨?_, fun c hc => ?_⟩, ?_, fun m hm => ?_⟩, ⟨?_, fun k hk => ?_⟩, ⟨?_, fun q hq => ?_⟩, ?_, ?_, fun k hk => ?_, fun q hq => ?_, ?_, fun k hk => ?_, fun q hq p hp hne => ?_⟩ FzY (fun k hk => ?_) (fun k hk => ?_)
  · rw [hzi 0 (by omega), hyu, if_neg (by decide), if_pos rfl]
  · rw [hzi 1 (by omega), hyu, if_pos rfl]
  · rw [hzr, k0, if_neg (by decide), if_neg (by decide), if_neg (by decide), if_neg (by decide), hru, if_pos rfl]
  · rw [hzr, k1]; rfl
  · rw [hzr, k2]; rfl
  · rw [hzr, k3]; rfl
  · rw [hzr, k4]; rfl
  · rw [hzr, k5, if_neg (by decide), if_neg (by decide), if_neg (by decide), if_neg (by decide), hru, if_neg (by decide)]; exact rn
  · rw [k0]; exact z1
  · rw [k0]; exact z2 c hc
  · rw [k1]; exact dz
  · rw [k1, zt d 21 hdv.1 (by decide), Fv.2.2.2.1 d c hmd.1.1 (fun z => z)]; exact hmdc c hc
  · rw [k2]; exact z3
  · rw [k2]; exact z4 m hm
  · rw [k3]; exact bz
  · obtain ⟨y1, y2, y3⟩ := hβv k hk
    rw [k3, kb k hk]
    refine ⟨?_, dq_A1_fr Fz y2, fun j hj => ?_⟩
    · rw [zr b k hbv.1.1]; exact y1
    · rw [zt _ 20 y2.1 (by decide)]; exact y3 j hj
  · rw [k4]; exact ez
  · obtain ⟨y1, y2, y3, y4, y5, -⟩ := hγ q hq
    obtain ⟨-, x2, x3, x4⟩ := Z2 q hq
    refine ⟨⟨?_, ?_, ?_, ?_, ?_⟩, ?_, ?_, fun l hl => ?_⟩
    · rw [k4, kc q hq, zr e q hev.1.1]; exact y1
    · rw [kc q hq]; exact dq_is_fr Fz y2
    · rw [kc q hq, zt _ 12 y2 (by decide)]; exact y3
    · rw [kc q hq, kr _ (by omega), zr _ _ y2.1]; exact y4
    · rw [kc q hq, kr _ (by omega), zr _ _ y2.1]; exact y5
    · rw [kr _ (by omega)]; exact x2
    · rw [kr _ (by omega)]; exact x3
    · unfold dq_Ig
      rw [kr _ (by omega), kr _ (by omega)]
      exact x4 l hl
  · rw [k5]; exact nz
  · rw [k5, k2]; exact (hold _ i2Y _ (by omega)).symm
  · rw [k5, kb k hk]
    obtain ⟨-, -, -, y4, -⟩ := hmβ k hk
    omega
  · rw [k5, kr _ (by omega)]; exact (hold _ (isY q hq) _ (by omega)).symm
  · rw [k0, k1]; exact hold _ i0Y _ (by omega)
  · obtain ⟨-, -, -, y4, -⟩ := hmβ k hk
    rw [k2, kb k hk]
    refine ⟨hold _ i2Y _ (by omega), fun q hq => ?_, fun i hi hne => ?_⟩
    · rw [kr _ (by omega)]; exact hold _ (isY q hq) _ (by omega)
    · rw [kb i hi]; exact hβd i hi k hk hne
  · rw [kc p hp, kc q hq]; exact hγd q hq p hp hne
  · rcases hk with (z | z | z | ⟨i, hi, z⟩ | ⟨q, hq, z⟩) | z | z
    · rw [z]; exact ht
    · rw [z, k1]; omega
    · rw [z, k5]; omega
    · obtain ⟨-, -, -, y4, -⟩ := hmβ i hi
      rw [z, kb i hi]; omega
    · obtain ⟨-, -, -, -, -, y6⟩ := hγ q hq
      rw [z, kc q hq]; omega
    · rw [z, k3]; omega
    · rw [z, k4]; omega
  · rcases hk with z | z | ⟨q, hq, z⟩
    · exact Or.inl (z.trans k0)
    · exact Or.inr (Or.inl (z.trans k2))
    · refine Or.inr (Or.inr ⟨q, hq, ?_⟩)
      rcases z with z | z | ⟨l, hl, z⟩
      · exact Or.inl (z.trans (kr _ (by omega)))
      · exact Or.inr (Or.inl (z.trans (kr _ (by omega))))
      · exact Or.inr (Or.inr ⟨l, hl, z.trans (kr _ (by omega))⟩)
end DQY
