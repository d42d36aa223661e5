/-! changes of the row: what carries over -/
def pu_X (j : Nat) : Prop := (4 ≤ j ∧ j < 8) ∨ (408 ≤ j ∧ j < 808) ∨ j = 856 ∨ j = 899 ∨ j = 942 ∨ j = 985
def pu_Y (j : Nat) : Prop := pu_X j ∨ j = 820 ∨ j = 825 ∨ j = 830 ∨ j = 835 ∨ j = 840 ∨ j = 845 ∨ j = 850 ∨ j = 855
def pu_ag (P : Nat → Prop) (a a' : Nat → Int32) : Prop := ∀ j, ¬ P j → a' j = a j
theorem pu_ag_Y {a a' : Nat → Int32} (h : pu_ag pu_X a a') : pu_ag pu_Y a a' := fun j hj => h j (fun z => hj (Or.inl z))
theorem pu_v_cong {a a' : Nat → Int32} {i : Nat} (e : a' i = a i) : pu_v a' i = pu_v a i := by unfold pu_v; rw [e]
theorem pu_is_cong {a a' : Nat → Int32} {i n : Nat} (e : a' i = a i) (h : pu_is a i n) : pu_is a' i n := by
  unfold pu_is
  rw [pu_v_cong e, e]
  exact h
theorem pu_nY {j : Nat} (h : j < 4 ∨ (8 ≤ j ∧ j < 408) ∨ (808 ≤ j ∧ j < 816)) : ¬ pu_Y j := by unfold pu_Y pu_X; omega
theorem pu_nYb {k j : Nat} (hk : k < 8) (hj : j < 4) : ¬ pu_Y (816 + 5 * k + j) := by unfold pu_Y pu_X; omega
theorem pu_nYc {q j : Nat} (hq : q < 4) (h1 : 1 ≤ j) (hj : j < 43) : ¬ pu_Y (pu_cl q + j) := by unfold pu_Y pu_X pu_cl; omega
theorem pu_nYl {q l j : Nat} (hq : q < 4) (hl : l < 8) (hj : j < 4) : ¬ pu_Y (pu_lg q l + j) := by
  have h1 : 4 * l + j ≤ 31 := by omega
  have h2 : pu_lg q l + j = 856 + 43 * q + 11 + (4 * l + j) := by unfold pu_lg; omega
  rw [h2]
  generalize 4 * l + j = m at h1
  unfold pu_Y pu_X
  omega
section CHG
variable {a a' : Nat → Int32} {w h nb nc : Nat}
theorem pu_ag_ns (hA : pu_ag pu_Y a a') {q : Nat} (hq : q < 4) : pu_ns a' q = pu_ns a q := pu_v_cong (hA _ (pu_nYc hq (by omega) (by omega)))
theorem pu_ag_nl (hA : pu_ag pu_Y a a') {q : Nat} (hq : q < 4) : pu_nl a' q = pu_nl a q := pu_v_cong (hA _ (pu_nYc hq (by omega) (by omega)))
theorem pu_ag_st (hA : pu_ag pu_Y a a') {q k : Nat} (hq : q < 4) (hk : k < 8) : a' (pu_cl q + 3 + k) = a (pu_cl q + 3 + k) := by
  rw [show pu_cl q + 3 + k = pu_cl q + (3 + k) from by omega]
  exact hA _ (pu_nYc hq (by omega) (by omega))
theorem pu_ag_mk (hA : pu_ag pu_Y a a') {m : Nat} (hm : m < 8) : a' (808 + m) = a (808 + m) := hA _ (pu_nY (by omega))
theorem pu_ag_lg (hA : pu_ag pu_Y a a') {q l : Nat} (hq : q < 4) (hl : l < 8) (j : Nat) (hj : j < 4) : a' (pu_lg q l + j) = a (pu_lg q l + j) := hA _ (pu_nYl hq hl hj)
theorem pu_ag_kind (hA : pu_ag pu_Y a a') {q l : Nat} (hq : q < 4) (hl : l < 8) : pu_kind a' q l = pu_kind a q l := pu_v_cong (pu_ag_lg hA hq hl 0 (by decide))
theorem pu_ag_many (hA : pu_ag pu_Y a a') {q l : Nat} (hq : q < 4) (hl : l < 8) : pu_many a' q l = pu_many a q l := pu_v_cong (pu_ag_lg hA hq hl 1 (by decide))
theorem pu_ag_give (hA : pu_ag pu_Y a a') {q l : Nat} (hq : q < 4) (hl : l < 8) : pu_give a' q l = pu_give a q l := pu_v_cong (pu_ag_lg hA hq hl 2 (by decide))
theorem pu_ag_bear (hA : pu_ag pu_Y a a') {q l : Nat} (hq : q < 4) (hl : l < 8) : pu_bear a' q l = pu_bear a q l := pu_v_cong (pu_ag_lg hA hq hl 3 (by decide))
theorem pu_ag_few (hA : pu_ag pu_Y a a') {q l : Nat} (hq : q < 4) (hl : l < 8) : pu_few a' q l = pu_few a q l := by
  unfold pu_few
  rw [pu_ag_kind hA hq hl, pu_ag_many hA hq hl, pu_ag_give hA hq hl]
theorem pu_ag_most (hA : pu_ag pu_Y a a') {q l : Nat} (hq : q < 4) (hl : l < 8) : pu_most a' q l = pu_most a q l := by
  unfold pu_most
  rw [pu_ag_kind hA hq hl, pu_ag_many hA hq hl, pu_ag_give hA hq hl]
theorem pu_ag_goal (hA : pu_ag pu_Y a a') {q l : Nat} (hq : q < 4) (hl : l < 8) (hw : pu_wfl a w h q l) : pu_goal a' q l = pu_goal a q l := by
  unfold pu_goal
  rw [pu_ag_kind hA hq hl, pu_ag_many hA hq hl]
  by_cases hk : pu_kind a q l = 1
  · have : pu_many a q l < 8 := (hw.2.2.2 hk).1.2
    rw [if_pos hk, if_pos hk, pu_v_cong (pu_ag_mk hA this)]
  · rw [if_neg hk, if_neg hk]
theorem pu_ag_sc (hA : pu_ag pu_Y a a') (H : pu_wfc a w h nc) {q k : Nat} (hq : q < nc) (hk : k < pu_ns a q) : pu_sc a' q k = pu_sc a q k := by
  have h4 := H.2.1
  obtain ⟨-, ⟨-, hns⟩, -, hst, -⟩ := H.2.2 q hq
  have hns : pu_ns a q < 9 := hns
  obtain ⟨⟨-, s2⟩, -⟩ := hst k hk
  unfold pu_sc
  rw [pu_v_cong (pu_ag_st hA (by omega) (by omega)), pu_v_cong (pu_ag_mk hA s2)]
theorem pu_ag_land (hA : pu_ag pu_Y a a') {c : Nat} (hc : c < 400) : pu_land a' c = pu_land a c := by
  unfold pu_land
  rw [hA (8 + c) (pu_nY (by omega))]
theorem pu_ag_wfl (hA : pu_ag pu_Y a a') {q l : Nat} (hq : q < 4) (hl : l < 8) (H : pu_wfl a w h q l) : pu_wfl a' w h q l := by
  obtain ⟨h1, h2, h3, h4⟩ := H
  refine ⟨pu_is_cong (pu_ag_lg hA hq hl 0 (by decide)) h1, pu_is_cong (pu_ag_lg hA hq hl 3 (by decide)) h2, fun z => ?_, fun z => ?_⟩
  · rw [pu_ag_kind hA hq hl] at z
    obtain ⟨z1, z2⟩ := h3 z
    exact ⟨pu_is_cong (pu_ag_lg hA hq hl 1 (by decide)) z1, pu_is_cong (pu_ag_lg hA hq hl 2 (by decide)) z2⟩
  · rw [pu_ag_kind hA hq hl] at z
    obtain ⟨z1, z2⟩ := h4 z
    have z3 : pu_many a q l < 8 := z1.2
    rw [pu_ag_many hA hq hl]
    exact ⟨pu_is_cong (pu_ag_lg hA hq hl 1 (by decide)) z1, pu_is_cong (pu_ag_mk hA z3) z2⟩
theorem pu_chg_WF (H : pu_WF a w h nb nc) (hA : pu_ag pu_Y a a') (hu : ∀ q, q < nc → a' (pu_cl q) = 0 ∨ a' (pu_cl q) = 1) (hd : ∀ c, c < 400 → a' (408 + c) = 0 ∨ a' (408 + c) = 1) (h6 : pu_is a' 6 3) (h7 : pu_is a' 7 (w * h)) (h4 : pu_is a' 4 (w * h)) (ht : ∀ k, k < nb → -3 ≤ (a' (816 + 5 * k + 4)).toInt ∧ (a' (816 + 5 * k + 4)).toInt ≤ 3) : pu_WF a' w h nb nc := by
  obtain ⟨⟨m1, m2, m3⟩, ⟨b1, b2, b3⟩, ⟨c1, c2, c3⟩, ⟨d1, d2, d3, d4, d5⟩, t4⟩ := H
  refine ⟨⟨(hA 0 (pu_nY (by omega))).trans m1, (hA 1 (pu_nY (by omega))).trans m2, m3⟩, ⟨(hA 2 (pu_nY (by omega))).trans b1, b2, fun k hk => ?_⟩, ⟨(hA 3 (pu_nY (by omega))).trans c1, c2, fun q hq => ?_⟩, ⟨fun c hc => ?_, hd, fun m hm => ?_, h6, h7⟩, h4⟩
  · obtain ⟨l, t, r, o, e1, e2, e3, e4, r1, r2, r3, r4, -⟩ := b3 k hk
    exact ⟨l, t, r, o, (hA _ (pu_nYb (j := 0) (by omega) (by decide))).trans e1, (hA _ (pu_nYb (by omega) (by decide))).trans e2, (hA _ (pu_nYb (by omega) (by decide))).trans e3, (hA _ (pu_nYb (by omega) (by decide))).trans e4, r1, r2, r3, r4, ht k hk⟩
  · have hq4 : q < 4 := by omega
    obtain ⟨u1, u2, u3, u4, u5⟩ := c3 q hq
    have u2' : pu_ns a q < 9 := u2.2
    have u3' : pu_nl a q < 9 := u3.2
    refine ⟨hu q hq, pu_is_cong (hA _ (pu_nYc hq4 (by omega) (by omega))) u2, pu_is_cong (hA _ (pu_nYc hq4 (by omega) (by omega))) u3, fun k hk => ?_, fun l hl => ?_⟩
    · rw [pu_ag_ns hA hq4] at hk
      obtain ⟨s1, s2⟩ := u4 k hk
      have s3 : pu_v a (pu_cl q + 3 + k) < 8 := s1.2
      rw [pu_v_cong (pu_ag_st hA hq4 (by omega))]
      exact ⟨pu_is_cong (pu_ag_st hA hq4 (by omega)) s1, pu_is_cong (pu_ag_mk hA s3) s2⟩
    · rw [pu_ag_nl hA hq4] at hl
      exact pu_ag_wfl hA hq4 (by omega) (u5 l hl)
  · rw [hA (8 + c) (pu_nY (by omega))]
    exact d1 c hc
  · rw [pu_ag_mk hA hm]
    rcases d3 m hm with z | z
    · exact Or.inl z
    · exact Or.inr (pu_is_cong (pu_ag_mk hA hm) z)
theorem pu_chg_CD {b b' : tw_Sg} (H : pu_WF a w h nb nc) (hA : pu_ag pu_Y a a') (C : pu_CD b a w h nb nc) (hb : ∀ j i, pu_lv j i → ¬ (j = 0 ∧ 10 ≤ i) → j ≠ 4 → j ≠ 15 → j ≠ 12 → b' j i = b j i) (e10 : b' 0 10 = pu_eS w (pu_tm a')) (e11 : b' 0 11 = a' 5) (e12 : b' 0 12 = a' 6) (e13 : a' 6 = 1 → b' 0 13 = Int32.ofNat (pu_sp w (pu_v a' 7))) (hd : pu_set b' 4 w (w * h) (pu_dug a')) (hu : ∀ q, q < nc → b' 15 q = a' (pu_cl q)) (ht : ∀ k, k < nb → b' 12 k = a' (816 + 5 * k + 4)) : pu_CD b' a' w h nb nc := by
  obtain ⟨w2, h2, nb8, nc4, hns, hnl⟩ := pu_CD_lens H
  have hm400 := pu_wfm_le H.1
  obtain ⟨⟨c1, c2, c3, -, -, c6, -, -⟩, s1, -, s3, s4, s5⟩ := C
  have hsp : ∀ c, c < w * h → pu_sp w c < 704 := fun c q => by have := pu_sp_rng w2 h2 q; omega
  refine ⟨⟨?_, ?_, ?_, e11, e12, ?_, e10, e13⟩, ?_, hd, fun m hm => ?_, fun k hk => ?_, fun q hq => ?_⟩
  · rw [hb 0 0 (by unfold pu_lv; omega) (by omega) (by omega) (by omega) (by omega), c1, hA 0 (pu_nY (by omega))]
  · rw [hb 0 1 (by unfold pu_lv; omega) (by omega) (by omega) (by omega) (by omega), c2, hA 1 (pu_nY (by omega))]
  · rw [hb 0 5 (by unfold pu_lv; omega) (by omega) (by omega) (by omega) (by omega), c3, hA 2 (pu_nY (by omega))]
  · rw [hb 13 0 (by unfold pu_lv; omega) (by omega) (by omega) (by omega) (by omega), c6, hA 3 (pu_nY (by omega))]
  · refine pu_set_ext (pu_set_rows s1 hsp (fun i hi => hb 2 i (by unfold pu_lv; omega) (by omega) (by omega) (by omega) (by omega))) (fun c hc => (pu_ag_land hA (by omega)).symm)
  · rw [hb 6 m (by unfold pu_lv; omega) (by omega) (by omega) (by omega) (by omega), s3 m hm]
    unfold pu_mk
    rw [pu_v_cong (pu_ag_mk hA hm), pu_ag_mk hA hm]
  · obtain ⟨b1, b2, -⟩ := s4 k hk
    have vb : ∀ j, j < 4 → pu_v a' (816 + 5 * k + j) = pu_v a (816 + 5 * k + j) := fun j hj => pu_v_cong (hA _ (pu_nYb (by omega) hj))
    have vb0 : pu_v a' (816 + 5 * k) = pu_v a (816 + 5 * k) := vb 0 (by decide)
    refine ⟨?_, ?_, ht k hk⟩
    · rw [hb 8 k (by unfold pu_lv; omega) (by omega) (by omega) (by omega) (by omega), b1, vb0, vb 1 (by decide)]
    · rw [hb 10 k (by unfold pu_lv; omega) (by omega) (by omega) (by omega) (by omega), b2, vb 2 (by decide), vb 3 (by decide)]
  · obtain ⟨-, g2, g3, g4, g5⟩ := s5 q hq
    have q1 := hns q hq
    have q2 := hnl q hq
    have hq4 : q < 4 := by omega
    refine ⟨hu q hq, ?_, ?_, fun k hk => ?_, fun l hl => ?_⟩
    · rw [hb 17 q (by unfold pu_lv; omega) (by omega) (by omega) (by omega) (by omega), g2, hA _ (pu_nYc hq4 (by omega) (by omega))]
    · rw [hb 21 q (by unfold pu_lv; omega) (by omega) (by omega) (by omega) (by omega), g3, hA _ (pu_nYc hq4 (by omega) (by omega))]
    · rw [pu_ag_ns hA hq4] at hk
      rw [hb 19 _ (by unfold pu_lv; omega) (by omega) (by omega) (by omega) (by omega), g4 k hk, pu_ag_st hA hq4 (by omega)]
    · rw [pu_ag_nl hA hq4] at hl
      have hwl := (H.2.2.1.2.2 q hq).2.2.2.2 l hl
      obtain ⟨l1, l2, l3, l4, l5⟩ := g5 l hl
      refine ⟨?_, ?_, ?_, ?_, ?_⟩
      · rw [hb 23 _ (by unfold pu_lv; omega) (by omega) (by omega) (by omega) (by omega), l1]
        exact (pu_ag_lg hA hq4 (by omega) 0 (by decide)).symm
      · rw [hb 25 _ (by unfold pu_lv; omega) (by omega) (by omega) (by omega) (by omega), l2]
        exact (pu_ag_lg hA hq4 (by omega) 3 (by decide)).symm
      · rw [hb 27 _ (by unfold pu_lv; omega) (by omega) (by omega) (by omega) (by omega), l3, pu_ag_few hA hq4 (by omega)]
      · rw [hb 29 _ (by unfold pu_lv; omega) (by omega) (by omega) (by omega) (by omega), l4, pu_ag_most hA hq4 (by omega)]
      · rw [hb 31 _ (by unfold pu_lv; omega) (by omega) (by omega) (by omega) (by omega), l5, pu_ag_goal hA hq4 (by omega) hwl]
theorem pu_nXb {k j : Nat} (hk : k < 8) (hj : j < 5) : ¬ pu_X (816 + 5 * k + j) := by unfold pu_X; omega
theorem pu_ag_tw (hA : pu_ag pu_X a a') {c : Nat} : ∀ k, k ≤ 8 → pu_tw a' w c k = pu_tw a w c k
  | 0, _ => rfl
  | k + 1, hk => by
    have ih := pu_ag_tw hA (c := c) k (by omega)
    have e : ∀ j, j < 5 → a' (816 + 5 * k + j) = a (816 + 5 * k + j) := fun j hj => hA _ (pu_nXb (by omega) hj)
    have e0 : a' (816 + 5 * k) = a (816 + 5 * k) := e 0 (by decide)
    have hin : pu_inb a' w k c = pu_inb a w k c := by
      unfold pu_inb
      rw [e0, e 1 (by decide), e 2 (by decide), e 3 (by decide)]
    show (pu_tw a' w c k + if pu_inb a' w k c then (a' (816 + 5 * k + 4)).toInt else 0) = (pu_tw a w c k + if pu_inb a w k c then (a (816 + 5 * k + 4)).toInt else 0)
    rw [ih, hin, e 4 (by decide)]
theorem pu_ag_step (hA : pu_ag pu_X a a') (hm : pu_wfm a w h) (hnb : nb ≤ 8) {c b : Nat} (hc : c < w * h) : pu_step a' w h nb c b = pu_step a w h nb c b := by
  unfold pu_step
  rw [pu_ag_tw hA nb hnb]
  unfold pu_nbr
  have h400 := pu_wfm_le hm
  cases e : pu_gnb w h c (((b : Int) + pu_tw a w c nb) % 8).toNat with
  | none => rfl
  | some c' =>
    have := (pu_nb_some hm.2.2.2.1 hm.2.2.2.2.2 hc (by omega) e).1
    dsimp only []
    rw [pu_ag_land (pu_ag_Y hA) (by omega)]
theorem pu_ag_pt (hA : pu_ag pu_X a a') (hm : pu_wfm a w h) (hnb : nb ≤ 8) {c b : Nat} (hc : c < w * h) : ∀ i, pu_pt a' w h nb b c i = pu_pt a w h nb b c i
  | 0 => rfl
  | i + 1 => by
    show (match pu_pt a' w h nb b c i with | some d => pu_step a' w h nb d b | none => none) = (match pu_pt a w h nb b c i with | some d => pu_step a w h nb d b | none => none)
    rw [pu_ag_pt hA hm hnb hc i]
    cases e : pu_pt a w h nb b c i with
    | none => rfl
    | some d => exact pu_ag_step hA hm hnb (pu_pt_lt hm hc i d e)
theorem pu_ag_E (hA : pu_ag pu_X a a') (H : pu_WF a w h nb nc) {q l c d : Nat} (hq : q < nc) (hl : l < pu_nl a q) (hc : c < w * h) : pu_E a' w h nb q l c d ↔ pu_E a w h nb q l c d := by
  have hY := pu_ag_Y hA
  have h4 := H.2.2.1.2.1
  have hq4 : q < 4 := by omega
  have hnl : pu_nl a q < 9 := (H.2.2.1.2.2 q hq).2.2.1.2
  have hl8 : l < 8 := by omega
  have hwl := (H.2.2.1.2.2 q hq).2.2.2.2 l hl
  have hce : ∀ i, pu_pt a w h nb (pu_bear a q l) c i = some d → pu_ce a' w h nb q l d i = pu_ce a w h nb q l d i := fun i hp => by
    have hd := pu_pt_lt H.1 hc i d hp
    unfold pu_ce
    rw [pu_ag_kind hY hq4 hl8, pu_ag_few hY hq4 hl8, pu_ag_goal hY hq4 hl8 hwl, pu_ag_bear hY hq4 hl8, pu_ag_step hA H.1 H.2.1.2.1 hd]
  unfold pu_E
  rw [pu_ag_most hY hq4 hl8, pu_ag_bear hY hq4 hl8]
  constructor
  · rintro ⟨i, i1, i2, i3⟩
    rw [pu_ag_pt hA H.1 H.2.1.2.1 hc] at i2
    exact ⟨i, i1, i2, by rw [← hce i i2]; exact i3⟩
  · rintro ⟨i, i1, i2, i3⟩
    exact ⟨i, i1, by rw [pu_ag_pt hA H.1 H.2.1.2.1 hc]; exact i2, by rw [hce i i2]; exact i3⟩
theorem pu_ag_Fw (hA : pu_ag pu_X a a') (H : pu_WF a w h nb nc) {q : Nat} (hq : q < nc) : ∀ l, l ≤ pu_nl a q → ∀ d, pu_Fw a' w h nb q l d ↔ pu_Fw a w h nb q l d
  | 0, _, d => by
    have h4 := H.2.2.1.2.1
    show (∃ k, k < pu_ns a' q ∧ pu_sc a' q k = d) ↔ (∃ k, k < pu_ns a q ∧ pu_sc a q k = d)
    rw [pu_ag_ns (pu_ag_Y hA) (by omega)]
    constructor
    · rintro ⟨k, k1, k2⟩
      exact ⟨k, k1, by rw [← pu_ag_sc (pu_ag_Y hA) H.2.2.1 hq k1]; exact k2⟩
    · rintro ⟨k, k1, k2⟩
      exact ⟨k, k1, by rw [pu_ag_sc (pu_ag_Y hA) H.2.2.1 hq k1]; exact k2⟩
  | l + 1, hl, d => by
    have ih := pu_ag_Fw hA H hq l (by omega)
    show (∃ c, c < w * h ∧ pu_Fw a' w h nb q l c ∧ pu_E a' w h nb q l c d) ↔ (∃ c, c < w * h ∧ pu_Fw a w h nb q l c ∧ pu_E a w h nb q l c d)
    constructor
    · rintro ⟨c, c1, c2, c3⟩
      exact ⟨c, c1, (ih c).mp c2, (pu_ag_E hA H hq (by omega) c1).mp c3⟩
    · rintro ⟨c, c1, c2, c3⟩
      exact ⟨c, c1, (ih c).mpr c2, (pu_ag_E hA H hq (by omega) c1).mpr c3⟩
theorem pu_chg_lay (hA : pu_ag pu_X a a') (H : pu_WF a w h nb nc) {σ : tw_Sg} (L : pu_lay σ a w h nb nc) : pu_lay σ a' w h nb nc := fun q hq l hl => by
  have h4 := H.2.2.1.2.1
  rw [pu_ag_nl (pu_ag_Y hA) (by omega)] at hl
  exact pu_set_ext (L q hq l hl) (fun d _ => pu_B_cong (pu_ag_Fw hA H hq l hl d).symm)
theorem pu_chg_tw (hA : pu_ag pu_X a a') (H : pu_WF a w h nb nc) {σ : tw_Sg} (T : pu_twOK σ a w h nb) : pu_twOK σ a' w h nb := fun c hc => by
  rw [pu_ag_tw hA nb H.2.1.2.1]
  exact T c hc
end CHG
/-! what holds between calls: the class, the reference -/
def pu_IC (σ : tw_Sg) (w h nb nc : Nat) (a : Nat → Int32) (cn : Nat) (hist : Nat → Nat → Int32) (len : Nat) (buf : Nat → Nat) (err : Int32) : Prop := pu_WF a w h nb nc ∧ pu_CC σ a w h nb nc ∧ pu_hC σ cn hist ∧ (∀ i, i < cn → pu_wf (hist i)) ∧ (σ 400 1 = Int32.ofNat len ∧ len ≤ 600 ∧ ∀ i, i < len → σ 402 i = Int32.ofNat (buf i) ∧ buf i < 256) ∧ σ 0 6 = err
def pu_IR (σ : tw_Sg) (w h nb nc : Nat) (a : Nat → Int32) (cn : Nat) (hist : Nat → Nat → Int32) (len : Nat) (buf : Nat → Nat) (err : Int32) : Prop := pu_RL σ a w h nb nc ∧ pu_hR σ cn hist ∧ (σ 442 2 = Int32.ofNat len ∧ ∀ i, i < len → σ 443 i = Int32.ofNat (buf i)) ∧ σ 442 7 = err
def pu_fC (k : Nat) : Prop := k < 442 ∨ k = 1036
def pu_fR (k : Nat) : Prop := 442 ≤ k ∧ k < 1036
theorem pu_hC_fr {σ σ' : tw_Sg} {cn : Nat} {hist : Nat → Nat → Int32} (hH : pu_hC σ cn hist) (hW : ∀ i, i < cn → pu_wf (hist i)) (hf : ∀ k, 142 ≤ k → k < 400 → σ' k = σ k) : pu_hC σ' cn hist := by
  obtain ⟨p, hp, e1, e2, h8, hs⟩ := hH
  refine ⟨p, hp, by rw [hf 142 (by omega) (by omega)]; exact e1, by rw [hf 142 (by omega) (by omega)]; exact e2, h8, fun i hi => pu_cd_live (hW i hi) (hs i hi) (fun j i' hl => ?_)⟩
  have := pu_lv_lt hl
  rw [hf _ (by omega) (by omega)]
theorem pu_IC_fr {σ σ' : tw_Sg} {w h nb nc cn len : Nat} {a : Nat → Int32} {hist : Nat → Nat → Int32} {buf : Nat → Nat} {err : Int32} (I : pu_IC σ w h nb nc a cn hist len buf err) (hf : ∀ k, k < 403 → ¬ (112 ≤ k ∧ k < 142) → σ' k = σ k) : pu_IC σ' w h nb nc a cn hist len buf err := by
  obtain ⟨i1, i2, i3, i4, ⟨i5, i6, i7⟩, i8⟩ := I
  refine ⟨i1, pu_CC_fr i1 i2 (fun k hk => hf k (by omega) (by omega)), pu_hC_fr i3 i4 (fun k h1 h2 => hf k (by omega) (by omega)), i4, ⟨?_, i6, fun i hi => ?_⟩, ?_⟩
  · rw [hf 400 (by omega) (by omega)]; exact i5
  · rw [hf 402 (by omega) (by omega)]; exact i7 i hi
  · rw [hf 0 (by omega) (by omega)]; exact i8
theorem pu_IR_fr {σ σ' : tw_Sg} {w h nb nc cn len : Nat} {a : Nat → Int32} {hist : Nat → Nat → Int32} {buf : Nat → Nat} {err : Int32} (H : pu_WF a w h nb nc) (I : pu_IR σ w h nb nc a cn hist len buf err) (hf : ∀ k, 442 ≤ k → k < 498 → σ' k = σ k) : pu_IR σ' w h nb nc a cn hist len buf err := by
  obtain ⟨⟨r1, r2⟩, ⟨h1, h2, h3, h4⟩, ⟨b1, b2⟩, i8⟩ := I
  have e42 := hf 442 (by omega) (by omega)
  refine ⟨⟨(hf 444 (by omega) (by omega)).trans r1, ?_⟩, ⟨by rw [e42]; exact h1, h2, fun i hi => by rw [hf _ (by omega) (by omega)]; exact h3 i hi, pu_zb_fr h4 (fun r hr => hf r (by unfold pu_dr at hr; omega) (by unfold pu_dr at hr; omega))⟩, ⟨by rw [e42]; exact b1, fun i hi => by rw [hf 443 (by omega) (by omega)]; exact b2 i hi⟩, by rw [e42]; exact i8⟩
  rw [e42]
  rcases r2 with z | ⟨z1, z2⟩
  · exact Or.inl z
  · have hnc := H.2.2.1.2.1
    refine Or.inr ⟨z1, fun q hq l hl => pu_es_cong (z2 q hq l hl) (hf _ (by unfold pu_En; omega) ?_)⟩
    have h9 : pu_nl a q < 9 := (H.2.2.1.2.2 q hq).2.2.1.2
    unfold pu_En; omega
/-- a question leaves all as it was -/
theorem pu_IC_SQ {σ σ' : tw_Sg} {w h nb nc cn len : Nat} {a : Nat → Int32} {hist : Nat → Nat → Int32} {buf : Nat → Nat} {err : Int32} (I : pu_IC σ w h nb nc a cn hist len buf err) (hf : pu_fr pu_SQ σ σ') : pu_IC σ' w h nb nc a cn hist len buf err := pu_IC_fr I (fun k h1 h2 => hf k (by unfold pu_SQ; omega))
theorem pu_IR_Q {σ σ' : tw_Sg} {w h nb nc cn len : Nat} {a : Nat → Int32} {hist : Nat → Nat → Int32} {buf : Nat → Nat} {err : Int32} (I : pu_IR σ w h nb nc a cn hist len buf err) (hL : pu_RL σ' a w h nb nc) (hi : ∀ i, i ≠ 0 → i ≠ 22 → σ' 442 i = σ 442 i) (hf : pu_fr pu_FQ σ σ') : pu_IR σ' w h nb nc a cn hist len buf err := by
  obtain ⟨-, ⟨h1, h2, h3, h4⟩, ⟨b1, b2⟩, i8⟩ := I
  refine ⟨hL, ⟨by rw [hi 11 (by decide) (by decide)]; exact h1, h2, fun i hi => by rw [hf _ (by unfold pu_FQ; omega)]; exact h3 i hi, pu_zb_fr h4 (fun r hr => hf r (by unfold pu_dr at hr; unfold pu_FQ; omega))⟩, ⟨by rw [hi 2 (by decide) (by decide)]; exact b1, fun i hi => by rw [hf 443 (by unfold pu_FQ; omega)]; exact b2 i hi⟩, by rw [hi 7 (by decide) (by decide)]; exact i8⟩
