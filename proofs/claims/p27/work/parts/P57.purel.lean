/-! WHAT THE TWO SIDES HOLD. a: the reference's row of data. b: the class's 32 cells of a Data. -/
def pu_v (a : Nat → Int32) (i : Nat) : Nat := (a i).toNatClampNeg
def pu_is (a : Nat → Int32) (i n : Nat) : Prop := a i = Int32.ofNat (pu_v a i) ∧ pu_v a i < n
theorem pu_is_of {a : Nat → Int32} {i n x : Nat} (h : a i = Int32.ofNat x) (hx : x < n) (hn : n ≤ 2147483648) : pu_is a i n := by
  have e : pu_v a i = x := by
    unfold pu_v
    rw [h, pu_n (by omega)]
  exact ⟨by rw [e]; exact h, by rw [e]; exact hx⟩
theorem pu_v_of {a : Nat → Int32} {i x : Nat} (h : a i = Int32.ofNat x) (hx : x < 2147483648) : pu_v a i = x := by
  unfold pu_v
  rw [h, pu_n hx]
def pu_dug (a : Nat → Int32) (c : Nat) : Bool := decide (a (408 + c) = 1)
def pu_mk (a : Nat → Int32) (m : Nat) : Option Nat := if a (808 + m) = -1 then none else some (pu_v a (808 + m))
def pu_tm (a : Nat → Int32) : Option Nat := if a 4 = -1 then none else some (pu_v a 4)
def pu_cl (c : Nat) : Nat := 856 + 43 * c
def pu_lg (c l : Nat) : Nat := 856 + 43 * c + 11 + 4 * l
def pu_ns (a : Nat → Int32) (c : Nat) : Nat := pu_v a (pu_cl c + 1)
def pu_nl (a : Nat → Int32) (c : Nat) : Nat := pu_v a (pu_cl c + 2)
def pu_sc (a : Nat → Int32) (c k : Nat) : Nat := pu_v a (808 + pu_v a (pu_cl c + 3 + k))
def pu_kind (a : Nat → Int32) (c l : Nat) : Nat := pu_v a (pu_lg c l)
def pu_many (a : Nat → Int32) (c l : Nat) : Nat := pu_v a (pu_lg c l + 1)
def pu_give (a : Nat → Int32) (c l : Nat) : Nat := pu_v a (pu_lg c l + 2)
def pu_bear (a : Nat → Int32) (c l : Nat) : Nat := pu_v a (pu_lg c l + 3)
def pu_few (a : Nat → Int32) (c l : Nat) : Nat := if pu_kind a c l = 0 then pu_many a c l - pu_give a c l else 0
def pu_most (a : Nat → Int32) (c l : Nat) : Nat := if pu_kind a c l = 0 then pu_many a c l + pu_give a c l else if pu_kind a c l = 1 then 60 else 59
def pu_goal (a : Nat → Int32) (c l : Nat) : Option Nat := if pu_kind a c l = 1 then some (pu_v a (808 + pu_many a c l)) else none
/-- a leg as it should be -/
def pu_wfl (a : Nat → Int32) (w h c l : Nat) : Prop := pu_is a (pu_lg c l) 3 ∧ pu_is a (pu_lg c l + 3) 8 ∧ (pu_kind a c l = 0 → pu_is a (pu_lg c l + 1) 31 ∧ pu_is a (pu_lg c l + 2) 6) ∧ (pu_kind a c l = 1 → pu_is a (pu_lg c l + 1) 8 ∧ pu_is a (808 + pu_many a c l) (w * h))
def pu_wfc (a : Nat → Int32) (w h nc : Nat) : Prop := a 3 = Int32.ofNat nc ∧ nc ≤ 4 ∧ ∀ c, c < nc → (a (pu_cl c) = 0 ∨ a (pu_cl c) = 1) ∧ pu_is a (pu_cl c + 1) 9 ∧ pu_is a (pu_cl c + 2) 9 ∧ (∀ k, k < pu_ns a c → pu_is a (pu_cl c + 3 + k) 8 ∧ pu_is a (808 + pu_v a (pu_cl c + 3 + k)) (w * h)) ∧ ∀ l, l < pu_nl a c → pu_wfl a w h c l
def pu_wfd (a : Nat → Int32) (w h : Nat) : Prop := (∀ c, c < 400 → a (8 + c) = 0 ∨ a (8 + c) = 1) ∧ (∀ c, c < 400 → a (408 + c) = 0 ∨ a (408 + c) = 1) ∧ (∀ m, m < 8 → a (808 + m) = -1 ∨ pu_is a (808 + m) (w * h)) ∧ pu_is a 6 3 ∧ pu_is a 7 (w * h)
/-- the data of an object between calls -/
def pu_WF (a : Nat → Int32) (w h nb nc : Nat) : Prop := pu_wfm a w h ∧ pu_wfb a w h nb ∧ pu_wfc a w h nc ∧ pu_wfd a w h ∧ pu_is a 4 (w * h)
def pu_spot (x y : Nat) : Nat := (y + 1) * 32 + x + 1
def pu_CDb (b : tw_Sg) (a : Nat → Int32) (k : Nat) : Prop := b 8 k = Int32.ofNat (pu_spot (pu_v a (816 + 5 * k)) (pu_v a (816 + 5 * k + 1))) ∧ b 10 k = Int32.ofNat (pu_spot (pu_v a (816 + 5 * k + 2)) (pu_v a (816 + 5 * k + 3))) ∧ b 12 k = a (816 + 5 * k + 4)
def pu_CDl (b : tw_Sg) (a : Nat → Int32) (w c l : Nat) : Prop := b 23 (8 * c + l) = a (pu_lg c l) ∧ b 25 (8 * c + l) = a (pu_lg c l + 3) ∧ b 27 (8 * c + l) = Int32.ofNat (pu_few a c l) ∧ b 29 (8 * c + l) = Int32.ofNat (pu_most a c l) ∧ b 31 (8 * c + l) = pu_eS w (pu_goal a c l)
def pu_CDc (b : tw_Sg) (a : Nat → Int32) (w c : Nat) : Prop := b 15 c = a (pu_cl c) ∧ b 17 c = a (pu_cl c + 1) ∧ b 21 c = a (pu_cl c + 2) ∧ (∀ k, k < pu_ns a c → b 19 (8 * c + k) = a (pu_cl c + 3 + k)) ∧ ∀ l, l < pu_nl a c → pu_CDl b a w c l
/-- the class's Data and the reference's row say the same -/
def pu_CD (b : tw_Sg) (a : Nat → Int32) (w h nb nc : Nat) : Prop :=
  (b 0 0 = a 0 ∧ b 0 1 = a 1 ∧ b 0 5 = a 2 ∧ b 0 11 = a 5 ∧ b 0 12 = a 6 ∧ b 13 0 = a 3 ∧ b 0 10 = pu_eS w (pu_tm a) ∧ (a 6 = 1 → b 0 13 = Int32.ofNat (pu_sp w (pu_v a 7)))) ∧
  pu_set b 2 w (w * h) (pu_land a) ∧ pu_set b 4 w (w * h) (pu_dug a) ∧ (∀ m, m < 8 → b 6 m = pu_eS w (pu_mk a m)) ∧ (∀ k, k < nb → pu_CDb b a k) ∧ ∀ c, c < nc → pu_CDc b a w c
def pu_bk (σ : tw_Sg) (d : Nat) : tw_Sg := fun j => σ (d + j)
/-- the places of a Data that count -/
def pu_lv (j i : Nat) : Prop := (j = 0 ∧ (i = 0 ∨ i = 1 ∨ i = 5 ∨ i = 10 ∨ i = 11 ∨ i = 12 ∨ i = 13)) ∨ (j = 13 ∧ i = 0) ∨ ((j = 2 ∨ j = 4) ∧ i < 22) ∨ ((j = 6 ∨ j = 8 ∨ j = 10 ∨ j = 12) ∧ i < 8) ∨ ((j = 15 ∨ j = 17 ∨ j = 21) ∧ i < 4) ∨ ((j = 19 ∨ j = 23 ∨ j = 25 ∨ j = 27 ∨ j = 29 ∨ j = 31) ∧ i < 32)
theorem pu_set_rows {σ σ' : tw_Sg} {A w m : Nat} {p : Nat → Bool} (h : pu_set σ A w m p) (hm : ∀ c, c < m → pu_sp w c < 704) (e : ∀ i, i < 22 → σ' A i = σ A i) : pu_set σ' A w m p := by
  have e2 : ∀ s, s < 704 → pu_bt σ' A s = pu_bt σ A s := fun s hs => by unfold pu_bt; rw [e (s / 32) (by omega)]
  exact ⟨fun c hc => (e2 _ (hm c hc)).trans (h.1 c hc), fun s hs hn => (e2 s hs).trans (h.2 s hs hn)⟩
theorem pu_CD_live {b b' : tw_Sg} {a : Nat → Int32} {w h nb nc : Nat} (hw : w ≤ 20) (hh : h ≤ 20) (hnb : nb ≤ 8) (hnc : nc ≤ 4) (hns : ∀ c, c < nc → pu_ns a c ≤ 8) (hnl : ∀ c, c < nc → pu_nl a c ≤ 8) (H : pu_CD b a w h nb nc) (e : ∀ j i, pu_lv j i → b' j i = b j i) : pu_CD b' a w h nb nc := by
  obtain ⟨⟨h1, h2, h3, h4, h5, h6, h7, h8⟩, hl, hd, hm, hb, hc⟩ := H
  have hsp : ∀ c, c < w * h → pu_sp w c < 704 := fun c q => by have := pu_sp_rng hw hh q; omega
  refine ⟨⟨?_, ?_, ?_, ?_, ?_, ?_, ?_, fun q => ?_⟩, pu_set_rows hl hsp (fun i hi => e _ _ ?_), pu_set_rows hd hsp (fun i hi => e _ _ ?_), fun m q => ?_, fun k q => ?_, fun c q => ?_⟩
  · rw [e 0 0 (by unfold pu_lv; omega), h1]
  · rw [e 0 1 (by unfold pu_lv; omega), h2]
  · rw [e 0 5 (by unfold pu_lv; omega), h3]
  · rw [e 0 11 (by unfold pu_lv; omega), h4]
  · rw [e 0 12 (by unfold pu_lv; omega), h5]
  · rw [e 13 0 (by unfold pu_lv; omega), h6]
  · rw [e 0 10 (by unfold pu_lv; omega), h7]
  · rw [e 0 13 (by unfold pu_lv; omega), h8 q]
  · unfold pu_lv; omega
  · unfold pu_lv; omega
  · rw [e 6 m (by unfold pu_lv; omega), hm m q]
  · obtain ⟨b1, b2, b3⟩ := hb k q
    exact ⟨by rw [e 8 k (by unfold pu_lv; omega), b1], by rw [e 10 k (by unfold pu_lv; omega), b2], by rw [e 12 k (by unfold pu_lv; omega), b3]⟩
  · obtain ⟨c1, c2, c3, c4, c5⟩ := hc c q
    have q1 := hns c q
    have q2 := hnl c q
    refine ⟨by rw [e 15 c (by unfold pu_lv; omega), c1], by rw [e 17 c (by unfold pu_lv; omega), c2], by rw [e 21 c (by unfold pu_lv; omega), c3], fun k hk => by rw [e 19 _ (by unfold pu_lv; omega), c4 k hk], fun l hl => ?_⟩
    obtain ⟨l1, l2, l3, l4, l5⟩ := c5 l hl
    exact ⟨by rw [e 23 _ (by unfold pu_lv; omega), l1], by rw [e 25 _ (by unfold pu_lv; omega), l2], by rw [e 27 _ (by unfold pu_lv; omega), l3], by rw [e 29 _ (by unfold pu_lv; omega), l4], by rw [e 31 _ (by unfold pu_lv; omega), l5]⟩
theorem pu_CD_lens {a : Nat → Int32} {w h nb nc : Nat} (H : pu_WF a w h nb nc) : w ≤ 20 ∧ h ≤ 20 ∧ nb ≤ 8 ∧ nc ≤ 4 ∧ (∀ c, c < nc → pu_ns a c ≤ 8) ∧ ∀ c, c < nc → pu_nl a c ≤ 8 := by
  obtain ⟨⟨-, -, -, m1, -, m2⟩, ⟨-, b1, -⟩, ⟨-, c1, c2⟩, -⟩ := H
  exact ⟨m1, m2, b1, c1, fun c q => Nat.le_of_lt_succ (c2 c q).2.1.2, fun c q => Nat.le_of_lt_succ (c2 c q).2.2.1.2⟩
/-! Data.copyFrom -/
def pu_cpd (σ0 : tw_Sg) (th r0 : Nat) (done : Nat → Nat → Prop) (σ1 : tw_Sg) : Prop := (∀ k, ¬ (th ≤ k ∧ k < th + 32) → σ1 k = σ0 k) ∧ ∀ j i, done j i → σ1 (th + j) i = σ0 (r0 + j) i
theorem pu_cpd_up {σ0 σ1 : tw_Sg} {th r0 j i : Nat} {done : Nat → Nat → Prop} (hd : th + 32 ≤ r0 ∨ r0 + 32 ≤ th) (hj : j < 32) (H : pu_cpd σ0 th r0 done σ1) : pu_cpd σ0 th r0 (fun j' i' => (j' = j ∧ i' = i) ∨ done j' i') (tw_up σ1 (th + j) i (σ1 (r0 + j) i)) := by
  refine ⟨fun k hk => ?_, fun j' i' hq => ?_⟩
  · rw [tw_up_n (by omega)]; exact H.1 k hk
  · rw [H.1 (r0 + j) (by omega)]
    by_cases e : j' = j
    · subst e
      rw [tw_up_s]
      unfold upd
      by_cases e2 : i' = i
      · subst e2; rw [if_pos rfl]
      · rw [if_neg e2]
        rcases hq with ⟨-, q⟩ | q
        · exact absurd q e2
        · exact H.2 _ _ q
    · rw [tw_up_n (by omega)]
      rcases hq with ⟨q, -⟩ | q
      · exact absurd q e
      · exact H.2 _ _ q
theorem pu_cpd_cp {σ0 σ1 : tw_Sg} {th r0 j N : Nat} {done : Nat → Nat → Prop} (hd : th + 32 ≤ r0 ∨ r0 + 32 ≤ th) (hj : j < 32) (hN : tw_ln (th + j) = N) (H : pu_cpd σ0 th r0 done σ1) : pu_cpd σ0 th r0 (fun j' i' => (j' = j ∧ i' < N) ∨ done j' i') (pu_cpA σ1 (th + j) (r0 + j)) := by
  refine ⟨fun k hk => ?_, fun j' i' hq => ?_⟩
  · rw [pu_cpA_n (by omega)]; exact H.1 k hk
  · by_cases e : j' = j
    · subst e
      by_cases e2 : i' < N
      · rw [pu_cpA_s (by rw [hN]; exact e2), H.1 (r0 + j') (by omega)]
      · rcases hq with ⟨-, q⟩ | q
        · exact absurd q e2
        · unfold pu_cpA
          rw [tw_upA_s, hN, if_neg e2]
          exact H.2 _ _ q
    · rw [pu_cpA_n (by omega)]
      rcases hq with ⟨q, -⟩ | q
      · exact absurd q e
      · exact H.2 _ _ q
theorem pu_cpd_mono {σ0 σ1 : tw_Sg} {th r0 : Nat} {done done' : Nat → Nat → Prop} (H : pu_cpd σ0 th r0 done σ1) (h : ∀ j i, done' j i → done j i) : pu_cpd σ0 th r0 done' σ1 := ⟨H.1, fun j i q => H.2 j i (h j i q)⟩
theorem pu_ltG {α ρ : Type} {e : α} {K : α → Option ρ} {Q : ρ → Prop} {P : α → Prop} (h : P e) (k : ∀ x, P x → pu_wp (K x) Q) : pu_wp (tw_lt e K) Q := k e h
theorem pu_cp_r {σ σ1 : tw_Sg} {th r0 T R N : Nat} {done : Nat → Nat → Prop} (j : Nat) (hd : th + 32 ≤ r0 ∨ r0 + 32 ≤ th) (hj : j < 32) (hT : T + 1 = th + j) (hR : R + 1 = r0 + j) (hN : tw_ln (th + j) = N) (hN0 : tw_ln (r0 + j) = N) (hNb : N < 100000) (H : pu_cpd σ th r0 done σ1) : pu_wp (tw_P_X7_copyFrom T R σ1) (fun σ' => pu_cpd σ th r0 (fun j' i' => (j' = j ∧ i' < N) ∨ done j' i') σ') := by
  refine pu_of (pu_rcopy (N := N) (by rw [hT]; exact hN) (by rw [hR]; exact hN0) hNb) ?_
  rw [hT, hR]
  exact pu_cpd_cp hd hj hN H
theorem pu_cp_c {σ σ1 : tw_Sg} {th r0 T R : Nat} {done : Nat → Nat → Prop} (j : Nat) (hd : th + 32 ≤ r0 ∨ r0 + 32 ≤ th) (hj : j < 32) (hT : T + 1 = th + j) (hR : R + 1 = r0 + j) (hk : tw_kd T = 0) (hk0 : tw_kd R = 0) (H : pu_cpd σ th r0 done σ1) : pu_wp (tw_P_X0_copyFrom T R σ1) (fun σ' => pu_cpd σ th r0 (fun j' i' => (j' = j ∧ i' < 22) ∨ done j' i') σ') := by
  refine pu_of (pu_ccopy hk hk0) ?_
  have hN : tw_ln (th + j) = 22 := by rw [← hT]; exact pu_l22 hk
  rw [hT, hR]
  exact pu_cpd_cp hd hj hN H
theorem pu_dcopy {σ : tw_Sg} {th r0 : Nat} (hk : tw_kd th = 2) (hk0 : tw_kd r0 = 2) (hd : th + 32 ≤ r0 ∨ r0 + 32 ≤ th) : pu_wp (tw_P_X2_copyFrom th r0 σ) (fun σ' => pu_cpd σ th r0 pu_lv σ') := by
  unfold tw_P_X2_copyFrom
  have H0 : pu_cpd σ th r0 (fun _ _ => False) σ := ⟨fun _ _ => rfl, fun _ _ q => q.elim⟩
  refine pu_ltG (pu_cpd_up (j := 0) (i := 0) hd (by decide) H0) (fun σ1 H1 => ?_)
  refine pu_ltG (pu_cpd_up (j := 0) (i := 1) hd (by decide) H1) (fun σ2 H2 => ?_)
  refine pu_bd (pu_cp_c 2 hd (by decide) rfl rfl (tw_kd2_1 hk) (tw_kd2_1 hk0) H2) (fun σ3 H3 => ?_)
  refine pu_bd (pu_cp_c 4 hd (by decide) rfl rfl (tw_kd2_3 hk) (tw_kd2_3 hk0) H3) (fun σ4 H4 => ?_)
  refine pu_bd (pu_cp_r 6 hd (by decide) rfl rfl (tw_ln2_6 hk) (tw_ln2_6 hk0) (by decide) H4) (fun σ5 H5 => ?_)
  refine pu_ltG (pu_cpd_up (j := 0) (i := 5) hd (by decide) H5) (fun σ6 H6 => ?_)
  refine pu_bd (pu_cp_r 8 hd (by decide) rfl rfl (tw_ln2_8 hk) (tw_ln2_8 hk0) (by decide) H6) (fun σ7 H7 => ?_)
  refine pu_bd (pu_cp_r 10 hd (by decide) rfl rfl (tw_ln2_10 hk) (tw_ln2_10 hk0) (by decide) H7) (fun σ8 H8 => ?_)
  refine pu_bd (pu_cp_r 12 hd (by decide) rfl rfl (tw_ln2_12 hk) (tw_ln2_12 hk0) (by decide) H8) (fun σ9 H9 => ?_)
  refine pu_bd (R := fun σ' => pu_cpd σ th r0 (fun j i => (j = 0 ∧ (i = 0 ∨ i = 1 ∨ i = 5)) ∨ (j = 13 ∧ i = 0) ∨ ((j = 2 ∨ j = 4) ∧ i < 22) ∨ ((j = 6 ∨ j = 8 ∨ j = 10 ∨ j = 12) ∧ i < 8) ∨ ((j = 15 ∨ j = 17 ∨ j = 21) ∧ i < 4) ∨ ((j = 19 ∨ j = 23 ∨ j = 25 ∨ j = 27 ∨ j = 29 ∨ j = 31) ∧ i < 32)) σ') ?_ (fun σc I0 => ?_)
  · unfold tw_P_X1_copyFrom
    refine pu_ltG (pu_cpd_up (j := 13) (i := 0) hd (by decide) H9) (fun σ10 H10 => ?_)
    refine pu_bd (pu_cp_r 15 hd (by decide) rfl rfl (tw_ln2_15 hk) (tw_ln2_15 hk0) (by decide) H10) (fun σ11 H11 => ?_)
    refine pu_bd (pu_cp_r 17 hd (by decide) rfl rfl (tw_ln2_17 hk) (tw_ln2_17 hk0) (by decide) H11) (fun σ12 H12 => ?_)
    refine pu_bd (pu_cp_r 19 hd (by decide) rfl rfl (tw_ln2_19 hk) (tw_ln2_19 hk0) (by decide) H12) (fun σ13 H13 => ?_)
    refine pu_bd (pu_cp_r 21 hd (by decide) rfl rfl (tw_ln2_21 hk) (tw_ln2_21 hk0) (by decide) H13) (fun σ14 H14 => ?_)
    refine pu_bd (pu_cp_r 23 hd (by decide) rfl rfl (tw_ln2_23 hk) (tw_ln2_23 hk0) (by decide) H14) (fun σ15 H15 => ?_)
    refine pu_bd (pu_cp_r 25 hd (by decide) rfl rfl (tw_ln2_25 hk) (tw_ln2_25 hk0) (by decide) H15) (fun σ16 H16 => ?_)
    refine pu_bd (pu_cp_r 27 hd (by decide) rfl rfl (tw_ln2_27 hk) (tw_ln2_27 hk0) (by decide) H16) (fun σ17 H17 => ?_)
    refine pu_bd (pu_cp_r 29 hd (by decide) rfl rfl (tw_ln2_29 hk) (tw_ln2_29 hk0) (by decide) H17) (fun σ18 H18 => ?_)
    refine pu_bd (pu_cp_r 31 hd (by decide) rfl rfl (tw_ln2_31 hk) (tw_ln2_31 hk0) (by decide) H18) (fun σ19 H19 => ?_)
    exact pu_some (pu_cpd_mono H19 (fun j i q => by
      rcases q with ⟨rfl, rfl | rfl | rfl⟩ | ⟨rfl, rfl⟩ | ⟨rfl | rfl, q⟩ | ⟨rfl | rfl | rfl | rfl, q⟩ | ⟨rfl | rfl | rfl, q⟩ | ⟨rfl | rfl | rfl | rfl | rfl | rfl, q⟩ <;> simp [*]))
  · refine pu_ltG (pu_cpd_up (j := 0) (i := 10) hd (by decide) I0) (fun σ10 I1 => ?_)
    refine pu_ltG (pu_cpd_up (j := 0) (i := 11) hd (by decide) I1) (fun σ11 I2 => ?_)
    refine pu_ltG (pu_cpd_up (j := 0) (i := 12) hd (by decide) I2) (fun σ12 I3 => ?_)
    refine pu_ltG (pu_cpd_up (j := 0) (i := 13) hd (by decide) I3) (fun σ13 I4 => ?_)
    exact pu_some (pu_cpd_mono I4 (fun j i q => by
      unfold pu_lv at q
      rcases q with ⟨rfl, rfl | rfl | rfl | rfl | rfl | rfl | rfl⟩ | ⟨rfl, rfl⟩ | ⟨rfl | rfl, q⟩ | ⟨rfl | rfl | rfl | rfl, q⟩ | ⟨rfl | rfl | rfl, q⟩ | ⟨rfl | rfl | rfl | rfl | rfl | rfl, q⟩ <;> simp [*]))
