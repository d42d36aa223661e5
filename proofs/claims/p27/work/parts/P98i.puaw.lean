/-! a row being read: pure facts -/
section AW
variable {A A' : Nat → Int32} {w h q : Nat} {b b' : tw_Sg}
/-- one clue of a row -/
def pu_wfq (a : Nat → Int32) (w h c : Nat) : Prop := (a (pu_cl c) = 0 ∨ a (pu_cl c) = 1) ∧ pu_is a (pu_cl c + 1) 9 ∧ pu_is a (pu_cl c + 2) 9 ∧ (∀ k, k < pu_ns a c → pu_is a (pu_cl c + 3 + k) 8 ∧ pu_is a (808 + pu_v a (pu_cl c + 3 + k)) (w * h)) ∧ ∀ l, l < pu_nl a c → pu_wfl a w h c l
/-- the Data's clue but for its use -/
def pu_CDp (b : tw_Sg) (a : Nat → Int32) (w c : Nat) : Prop := b 17 c = a (pu_cl c + 1) ∧ b 21 c = a (pu_cl c + 2) ∧ (∀ k, k < pu_ns a c → b 19 (8 * c + k) = a (pu_cl c + 3 + k)) ∧ ∀ l, l < pu_nl a c → pu_CDl b a w c l
def pu_eqq (A A' : Nat → Int32) (q : Nat) : Prop := ∀ j, j < 43 → A' (pu_cl q + j) = A (pu_cl q + j)
/-- known marks stay -/
def pu_eqm (A A' : Nat → Int32) : Prop := ∀ m, m < 8 → A (808 + m) ≠ -1 → A' (808 + m) = A (808 + m)
theorem pu_is_n1 {a : Nat → Int32} {i n : Nat} (h : pu_is a i n) (hn : n ≤ 2147483648) : a i ≠ -1 := fun z => by
  have h1 := h.1
  have h2 := h.2
  rw [z] at h1
  exact pu_nm1 (show pu_v a i < 2147483648 by omega) h1.symm
theorem pu_wh {w h : Nat} (hw : w ≤ 20) (hh : h ≤ 20) : w * h ≤ 400 := Nat.mul_le_mul hw hh
theorem pu_lge {q l j : Nat} (hl : l < 8) (hj : j < 4) : ∃ i, i < 43 ∧ pu_lg q l + j = pu_cl q + i := ⟨11 + 4 * l + j, by omega, by unfold pu_lg pu_cl; omega⟩
theorem pu_eql (hq : pu_eqq A A' q) {l j : Nat} (hl : l < 8) (hj : j < 4) : A' (pu_lg q l + j) = A (pu_lg q l + j) := by
  obtain ⟨i, h1, h2⟩ := pu_lge (q := q) hl hj
  rw [h2]
  exact hq i h1
theorem pu_eqs (hq : pu_eqq A A' q) {k : Nat} (hk : k < 8) : A' (pu_cl q + 3 + k) = A (pu_cl q + 3 + k) := by
  rw [show pu_cl q + 3 + k = pu_cl q + (3 + k) from by omega]
  exact hq _ (by omega)
theorem pu_eq_ns (hq : pu_eqq A A' q) : pu_ns A' q = pu_ns A q := pu_v_cong (hq 1 (by decide))
theorem pu_eq_nl (hq : pu_eqq A A' q) : pu_nl A' q = pu_nl A q := pu_v_cong (hq 2 (by decide))
theorem pu_eq_kind (hq : pu_eqq A A' q) {l : Nat} (hl : l < 8) : pu_kind A' q l = pu_kind A q l := pu_v_cong (pu_eql hq hl (j := 0) (by decide))
theorem pu_eq_many (hq : pu_eqq A A' q) {l : Nat} (hl : l < 8) : pu_many A' q l = pu_many A q l := pu_v_cong (pu_eql hq hl (j := 1) (by decide))
theorem pu_eq_give (hq : pu_eqq A A' q) {l : Nat} (hl : l < 8) : pu_give A' q l = pu_give A q l := pu_v_cong (pu_eql hq hl (j := 2) (by decide))
theorem pu_wfq_l (hw : w ≤ 20) (hh : h ≤ 20) (hq : pu_eqq A A' q) (hm : pu_eqm A A') {l : Nat} (hl : l < 8) (H : pu_wfl A w h q l) : pu_wfl A' w h q l ∧ pu_goal A' q l = pu_goal A q l := by
  have hwh := pu_wh hw hh
  obtain ⟨h1, h2, h3, h4⟩ := H
  have hg : pu_kind A q l = 1 → A' (808 + pu_many A q l) = A (808 + pu_many A q l) := fun z => hm _ (h4 z).1.2 (pu_is_n1 (h4 z).2 (by omega))
  refine ⟨⟨pu_is_cong (pu_eql hq hl (j := 0) (by decide)) h1, pu_is_cong (pu_eql hq hl (j := 3) (by decide)) h2, fun z => ?_, fun z => ?_⟩, ?_⟩
  · rw [pu_eq_kind hq hl] at z
    exact ⟨pu_is_cong (pu_eql hq hl (by decide)) (h3 z).1, pu_is_cong (pu_eql hq hl (by decide)) (h3 z).2⟩
  · rw [pu_eq_kind hq hl] at z
    rw [pu_eq_many hq hl]
    exact ⟨pu_is_cong (pu_eql hq hl (by decide)) (h4 z).1, pu_is_cong (hg z) (h4 z).2⟩
  · unfold pu_goal
    rw [pu_eq_kind hq hl, pu_eq_many hq hl]
    by_cases z : pu_kind A q l = 1
    · rw [if_pos z, if_pos z, pu_v_cong (hg z)]
    · rw [if_neg z, if_neg z]
theorem pu_wfq_cong (hw : w ≤ 20) (hh : h ≤ 20) (hq : pu_eqq A A' q) (hm : pu_eqm A A') (H : pu_wfq A w h q) : pu_wfq A' w h q := by
  have hwh := pu_wh hw hh
  obtain ⟨h1, h2, h3, h4, h5⟩ := H
  have n1 : pu_ns A q < 9 := h2.2
  have n2 : pu_nl A q < 9 := h3.2
  refine ⟨?_, pu_is_cong (hq 1 (by decide)) h2, pu_is_cong (hq 2 (by decide)) h3, fun k hk => ?_, fun l hl => ?_⟩
  · rw [show A' (pu_cl q) = A (pu_cl q) from hq 0 (by decide)]; exact h1
  · rw [pu_eq_ns hq] at hk
    obtain ⟨s1, s2⟩ := h4 k hk
    have e := pu_eqs hq (show k < 8 by omega)
    refine ⟨pu_is_cong e s1, ?_⟩
    rw [pu_v_cong e]
    exact pu_is_cong (hm _ s1.2 (pu_is_n1 s2 (by omega))) s2
  · rw [pu_eq_nl hq] at hl
    exact (pu_wfq_l hw hh hq hm (by omega) (h5 l hl)).1
/-- the places of a clue in the Data -/
def pu_bq (b b' : tw_Sg) (q : Nat) : Prop := b' 17 q = b 17 q ∧ b' 21 q = b 21 q ∧ ∀ k, k < 8 → b' 19 (8 * q + k) = b 19 (8 * q + k) ∧ b' 23 (8 * q + k) = b 23 (8 * q + k) ∧ b' 25 (8 * q + k) = b 25 (8 * q + k) ∧ b' 27 (8 * q + k) = b 27 (8 * q + k) ∧ b' 29 (8 * q + k) = b 29 (8 * q + k) ∧ b' 31 (8 * q + k) = b 31 (8 * q + k)
theorem pu_CDl_cong (hw : w ≤ 20) (hh : h ≤ 20) (hq : pu_eqq A A' q) (hm : pu_eqm A A') {l : Nat} (hl : l < 8) (W : pu_wfl A w h q l) (hb : b' 23 (8 * q + l) = b 23 (8 * q + l) ∧ b' 25 (8 * q + l) = b 25 (8 * q + l) ∧ b' 27 (8 * q + l) = b 27 (8 * q + l) ∧ b' 29 (8 * q + l) = b 29 (8 * q + l) ∧ b' 31 (8 * q + l) = b 31 (8 * q + l)) (H : pu_CDl b A w q l) : pu_CDl b' A' w q l := by
  obtain ⟨c1, c2, c3, c4, c5⟩ := H
  obtain ⟨b1, b2, b3, b4, b5⟩ := hb
  refine ⟨?_, ?_, ?_, ?_, ?_⟩
  · rw [b1, c1]; exact (pu_eql hq hl (j := 0) (by decide)).symm
  · rw [b2, c2]; exact (pu_eql hq hl (j := 3) (by decide)).symm
  · rw [b3, c3]; unfold pu_few; rw [pu_eq_kind hq hl, pu_eq_many hq hl, pu_eq_give hq hl]
  · rw [b4, c4]; unfold pu_most; rw [pu_eq_kind hq hl, pu_eq_many hq hl, pu_eq_give hq hl]
  · rw [b5, c5, (pu_wfq_l hw hh hq hm hl W).2]
theorem pu_CDp_cong (hw : w ≤ 20) (hh : h ≤ 20) (hq : pu_eqq A A' q) (hm : pu_eqm A A') (W : pu_wfq A w h q) (hb : pu_bq b b' q) (H : pu_CDp b A w q) : pu_CDp b' A' w q := by
  obtain ⟨c1, c2, c3, c4⟩ := H
  obtain ⟨b1, b2, b3⟩ := hb
  have n1 : pu_ns A q < 9 := W.2.1.2
  have n2 : pu_nl A q < 9 := W.2.2.1.2
  refine ⟨by rw [b1, c1, hq 1 (by decide)], by rw [b2, c2, hq 2 (by decide)], fun k hk => ?_, fun l hl => ?_⟩
  · rw [pu_eq_ns hq] at hk
    rw [(b3 k (by omega)).1, c3 k hk, pu_eqs hq (by omega)]
  · rw [pu_eq_nl hq] at hl
    exact pu_CDl_cong hw hh hq hm (by omega) (W.2.2.2.2 l hl) (b3 l (by omega)).2 (c4 l hl)
/-- a row between two statements -/
def pu_AW (A : Nat → Int32) (w h : Nat) : Prop := pu_wfm A w h ∧ pu_wfb A w h (pu_v A 2) ∧ pu_wfc A w h (pu_v A 3) ∧ pu_wfd A w h ∧ (A 4 = -1 ∨ pu_is A 4 (w * h)) ∧ (∀ j, 1028 ≤ j → A j = 0) ∧ (∀ q, pu_v A 3 ≤ q → q < 4 → ∀ j, j < 43 → A (pu_cl q + j) = 0) ∧ ∃ c, c < w * h ∧ pu_land A c = true
theorem pu_AW_b (H : pu_AW A w h) : 0 < w ∧ w ≤ 20 ∧ 0 < h ∧ h ≤ 20 := ⟨H.1.2.2.1, H.1.2.2.2.1, H.1.2.2.2.2.1, H.1.2.2.2.2.2⟩
theorem pu_AW_mk (H : pu_AW A w h) {m c : Nat} (hm : m < 8) (e : pu_mk A m = some c) : c < w * h ∧ A (808 + m) = Int32.ofNat c := by
  unfold pu_mk at e
  by_cases z : A (808 + m) = -1
  · rw [if_pos z] at e; cases e
  · rw [if_neg z] at e
    have e := Option.some.inj e
    subst e
    have := (H.2.2.2.1.2.2.1 m hm).resolve_left z
    exact ⟨this.2, this.1⟩
theorem pu_AW_tm (H : pu_AW A w h) {c : Nat} (e : pu_tm A = some c) : c < w * h ∧ A 4 = Int32.ofNat c := by
  unfold pu_tm at e
  by_cases z : A 4 = -1
  · rw [if_pos z] at e; cases e
  · rw [if_neg z] at e
    have e := Option.some.inj e
    subst e
    have := H.2.2.2.2.1.resolve_left z
    exact ⟨this.2, this.1⟩
/-- rows that say the same but for land, marks, the team -/
theorem pu_AW_cong (H : pu_AW A w h) (h0 : ∀ j, j < 4 → A' j = A j) (h5 : ∀ j, (5 ≤ j ∧ j < 8) ∨ (408 ≤ j ∧ j < 808) ∨ 816 ≤ j → A' j = A j) (hl : ∀ c, c < 400 → A' (8 + c) = 0 ∨ A' (8 + c) = 1) (hm : pu_eqm A A') (hm2 : ∀ m, m < 8 → A' (808 + m) = -1 ∨ pu_is A' (808 + m) (w * h)) (h4 : A' 4 = -1 ∨ pu_is A' 4 (w * h)) (hL : ∃ c, c < w * h ∧ pu_land A' c = true) : pu_AW A' w h := by
  obtain ⟨⟨m1, m2, m3⟩, ⟨b1, b2, b3⟩, ⟨c1, c2, c3⟩, ⟨d1, d2, d3, d4, d5⟩, -, hz, hcz, -⟩ := H
  have e2 : pu_v A' 2 = pu_v A 2 := pu_v_cong (h0 2 (by decide))
  have e3 : pu_v A' 3 = pu_v A 3 := pu_v_cong (h0 3 (by decide))
  have hq : ∀ q, q < 4 → pu_eqq A A' q := fun q hq j hj => h5 _ (by unfold pu_cl; omega)
  refine ⟨⟨(h0 0 (by decide)).trans m1, (h0 1 (by decide)).trans m2, m3⟩, ⟨?_, ?_, fun k hk => ?_⟩, ⟨?_, ?_, fun c hc => ?_⟩, ⟨hl, fun c hc => ?_, hm2, pu_is_cong (h5 6 (by omega)) d4, pu_is_cong (h5 7 (by omega)) d5⟩, h4, fun j hj => ?_, fun q z1 z2 j hj => ?_, hL⟩
  · rw [e2, h0 2 (by decide)]; exact b1
  · rw [e2]; exact b2
  · rw [e2] at hk
    obtain ⟨l, t, r, o, g1, g2, g3, g4, g5⟩ := b3 k hk
    refine ⟨l, t, r, o, (h5 _ (by omega)).trans g1, (h5 _ (by omega)).trans g2, (h5 _ (by omega)).trans g3, (h5 _ (by omega)).trans g4, ?_⟩
    rw [h5 (816 + 5 * k + 4) (by omega)]
    exact g5
  · rw [e3, h0 3 (by decide)]; exact c1
  · rw [e3]; exact c2
  · rw [e3] at hc
    exact pu_wfq_cong m3.2.1 m3.2.2.2 (hq c (by omega)) hm (c3 c hc)
  · rw [h5 _ (by omega)]; exact d2 c hc
  · rw [h5 j (by omega)]; exact hz j hj
  · rw [e3] at z1
    rw [hq q z2 j hj]
    exact hcz q z1 z2 j hj
theorem pu_dC_cong (H : pu_AW A w h) (h0 : ∀ j, j < 4 → A' j = A j) (h5 : ∀ j, (5 ≤ j ∧ j < 8) ∨ (408 ≤ j ∧ j < 808) ∨ 816 ≤ j → A' j = A j) (hm : pu_eqm A A') (D : pu_dC A w h b) (hb : ∀ j i, j ≠ 2 → j ≠ 6 → ¬ (j = 0 ∧ i = 10) → b' j i = b j i) (e10 : b' 0 10 = pu_eS w (pu_tm A')) (e2 : pu_set b' 2 w (w * h) (pu_land A')) (e6 : ∀ m, m < 8 → b' 6 m = pu_eS w (pu_mk A' m)) : pu_dC A' w h b' := by
  have v2 : pu_v A' 2 = pu_v A 2 := pu_v_cong (h0 2 (by decide))
  have v3 : pu_v A' 3 = pu_v A 3 := pu_v_cong (h0 3 (by decide))
  obtain ⟨m1, ⟨-, b2, -⟩, ⟨-, c2, c3⟩, -⟩ := H
  have hq : ∀ q, q < 4 → pu_eqq A A' q := fun q hq j hj => h5 _ (by unfold pu_cl; omega)
  have hbk : ∀ q, pu_bq b b' q := fun q => ⟨hb _ _ (by decide) (by decide) (by omega), hb _ _ (by decide) (by decide) (by omega), fun k hk => ⟨hb _ _ (by decide) (by decide) (by omega), hb _ _ (by decide) (by decide) (by omega), hb _ _ (by decide) (by decide) (by omega), hb _ _ (by decide) (by decide) (by omega), hb _ _ (by decide) (by decide) (by omega), hb _ _ (by decide) (by decide) (by omega)⟩⟩
  obtain ⟨⟨⟨t1, t2, t3, t4, t5, t6, t7, t8⟩, hl, hd, hmk, hbd, hc⟩, hz⟩ := D
  unfold pu_dC
  rw [v2, v3]
  refine ⟨⟨⟨?_, ?_, ?_, ?_, ?_, ?_, e10, fun z => ?_⟩, e2, ?_, e6, fun k hk => ?_, fun c hc' => ⟨?_, ?_⟩⟩, fun q z1 z2 => ?_⟩
  · rw [hb 0 0 (by decide) (by decide) (by omega), h0 0 (by decide)]; exact t1
  · rw [hb 0 1 (by decide) (by decide) (by omega), h0 1 (by decide)]; exact t2
  · rw [hb 0 5 (by decide) (by decide) (by omega), h0 2 (by decide)]; exact t3
  · rw [hb 0 11 (by decide) (by decide) (by omega), h5 5 (by omega)]; exact t4
  · rw [hb 0 12 (by decide) (by decide) (by omega), h5 6 (by omega)]; exact t5
  · rw [hb 13 0 (by decide) (by decide) (by omega), h0 3 (by decide)]; exact t6
  · rw [h5 6 (by omega)] at z
    rw [hb 0 13 (by decide) (by decide) (by omega), t8 z, pu_v_cong (h5 7 (by omega))]
  · refine pu_set_ext (pu_set_cong hd (funext fun i => hb 4 i (by decide) (by decide) (by omega))) (fun c hc => ?_)
    have := pu_wh m1.2.2.2.1 m1.2.2.2.2.2
    unfold pu_dug
    rw [h5 (408 + c) (by omega)]
  · obtain ⟨k1, k2, k3⟩ := hbd k hk
    refine ⟨?_, ?_, ?_⟩
    · rw [hb 8 k (by decide) (by decide) (by omega), k1, pu_v_cong (h5 (816 + 5 * k) (by omega)), pu_v_cong (h5 (816 + 5 * k + 1) (by omega))]
    · rw [hb 10 k (by decide) (by decide) (by omega), k2, pu_v_cong (h5 (816 + 5 * k + 2) (by omega)), pu_v_cong (h5 (816 + 5 * k + 3) (by omega))]
    · rw [hb 12 k (by decide) (by decide) (by omega), k3, h5 (816 + 5 * k + 4) (by omega)]
  · rw [hb 15 c (by decide) (by decide) (by omega), show A' (pu_cl c) = A (pu_cl c) from hq c (by omega) 0 (by decide)]
    exact (hc c hc').1
  · exact pu_CDp_cong m1.2.2.2.1 m1.2.2.2.2.2 (hq c (by omega)) hm (c3 c hc') (hbk c) (hc c hc').2
  · rw [(hbk q).1, (hbk q).2.1]
    exact hz q z1 z2
end AW
