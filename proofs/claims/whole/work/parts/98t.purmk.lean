/-! the reference: land, marks, the team, bends, starts -/
section RMK
variable {σ σ0 : tw_Sg} {B : Nat → Nat} {L p n w h q : Nat} {E : Option (Int32 × Nat)} {A A' : Nat → Int32}
theorem pu_SR_any {e : Int32 × Nat} {p' : Nat} (H : pu_SR B L σ0 A (some e) p σ) : pu_SR B L σ0 A' (some e) p' σ := ⟨pu_rL_any H.1, H.2.1, fun z => (by cases z), H.2.2.2⟩
theorem pu_SR_c (H : pu_SR B L σ0 A E p σ) {E' : Option (Int32 × Nat)} (e : E' = E) : pu_SR B L σ0 A E' p σ := by rw [e]; exact H
theorem pu_srLand (H : pu_SR B L σ0 A E p σ) (W : E = none → pu_wfm A w h ∧ ∀ c, c < 400 → A (8 + c) = 0 ∨ A (8 + c) = 1) (w1 : 0 < w) (w2 : w ≤ 20) (h1 : 0 < h) (h2 : h ≤ 20) (hn : 2000 < n) : pu_wp (tw_P_X12_readLand n σ) (fun r => (pu_eL B L w h (pu_land A) E p = none → r.1 = Int32.ofNat (pu_cN B L w p)) ∧ pu_SR B L σ0 A (pu_eL B L w h (pu_land A) E p) (pu_nk B L 2 p) r.2 ∧ pu_fB σ r.2) := by
  have hwh := pu_wh w2 h2
  unfold tw_P_X12_readLand
  rw [pu_l445]
  refine pu_ck (by decide) (pu_bd (pu_srN (lo' := (0 : Nat)) (hi' := (w - 1 : Nat)) H (fun z => ⟨rfl, by rw [show σ 445 (Int32.toNatClampNeg (0 : Int32)) = A 0 from pu_sr445 H z (by decide), (W z).1.1]; exact pu_m1I w1 w2⟩) hn) (fun r1 hr => ?_))
  obtain ⟨v1, H1, f1⟩ := hr
  refine pu_lt (pu_lt (pu_ck (by decide) (pu_bd (pu_srN (lo' := (0 : Nat)) (hi' := (h - 1 : Nat)) H1 (fun z => ⟨rfl, by rw [show r1.2 445 (Int32.toNatClampNeg (1 : Int32)) = A 1 from pu_sr445 H1 z (by decide), (W (pu_fs0.mp z).1).1.2.1]; exact pu_m1I h1 h2⟩) hn) (fun r4 hr => pu_lt (pu_ck (by decide) (pu_lt ?_))))))
  obtain ⟨v4, H4, f4⟩ := hr
  have fa := pu_fB_trans f1 f4
  have eL : pu_eL B L w h (pu_land A) E p = pu_fs (pu_eN B L (pu_eN B L E (0 : Nat) (w - 1 : Nat) p) (0 : Nat) (h - 1 : Nat) (pu_nk B L 1 p)) (pu_land A (pu_cN B L w p) = true) (-7) p := rfl
  cases hE : pu_eN B L (pu_eN B L E (0 : Nat) (w - 1 : Nat) p) (0 : Nat) (h - 1 : Nat) (pu_nk B L 1 p) with
  | some e =>
    have H4' : pu_SR B L σ0 A (some e) (pu_nk B L 2 p) r4.2 := pu_SR_c H4 hE.symm
    rw [eL, hE]
    exact pu_bde (pu_SR_g0 H4') (pu_jn0 (pu_ift rfl (pu_some ⟨fun z => (by cases z), H4', fa⟩)))
  | none =>
    have H4' : pu_SR B L σ0 A none (pu_nk B L 2 p) r4.2 := pu_SR_c H4 hE.symm
    obtain ⟨z1, -, -, y1⟩ := pu_fs0.mp hE
    obtain ⟨z0, -, -, x1⟩ := pu_fs0.mp z1
    have xw : pu_num B L p < w := by omega
    have yh : pu_num B L (pu_nk B L 1 p) < h := by omega
    have hc := pu_cell_lt (q := pu_num B L (pu_nk B L 1 p)) (r := pu_num B L p) yh xw
    have hv : (r4.1 * (r4.2 445 (Int32.toNatClampNeg (0 : Int32)))) + r1.1 = Int32.ofNat (pu_cN B L w p) := by
      rw [show r4.2 445 (Int32.toNatClampNeg (0 : Int32)) = A 0 from pu_sr445 H4' rfl (by decide), (W z0).1.1, (v4 hE).1, (v1 z1).1, pu_mul, pu_add]
      rfl
    rw [hv]
    have hcN : pu_cN B L w p < w * h := hc
    refine pu_bde (pu_SR_g1 H4') (pu_jn0 (pu_iff pu_10 ?_))
    rw [show (8 : Int32) + Int32.ofNat (pu_cN B L w p) = Int32.ofNat (8 + pu_cN B L w p) from pu_add 8 _, pu_n (show 8 + pu_cN B L w p < 2147483648 by omega), pu_sr445 H4' rfl (show 8 + pu_cN B L w p ≠ 4 by omega)]
    refine pu_ck (pu_ok (by omega) (by omega)) ?_
    rw [eL, hE]
    have hl : pu_land A (pu_cN B L w p) = true ↔ ¬ A (8 + pu_cN B L w p) = 1 := by
      unfold pu_land
      rw [decide_eq_true_iff]
      rcases (W z0).2 (pu_cN B L w p) (by omega) with y | y
      · rw [y]; exact ⟨fun _ => by decide, fun _ => rfl⟩
      · rw [y]; exact ⟨fun z => absurd z pu_10, fun z => absurd rfl z⟩
    refine pu_if (fun c => ?_) (fun c => ?_)
    · rw [pu_fs_y (hl.mpr c)]
      exact pu_some ⟨fun _ => rfl, H4', fa⟩
    · rw [(v1 z1).2, pu_fs_n (fun z => c (hl.mp z))]
      exact pu_bd (pu_srF (o := p) H4' (by decide) (fun _ => rfl)) (fun t ht => pu_some ⟨fun z => (by cases z), ht.1, pu_fB_trans fa ht.2⟩)
theorem pu_srM (H : pu_SR B L σ0 A none p σ) (hn : 2000 < n) : pu_wp (tw_P_X12_letter n σ) (fun r => (pu_isM B L p → r.1 = Int32.ofNat (B p - 97) ∧ pu_SR B L σ0 A none (pu_nx B L p) r.2 ∧ r.2 442 4 - (1 : Int32) = Int32.ofNat p) ∧ (¬ pu_isM B L p → r.1 = 0 ∧ pu_SR B L σ0 A (some (-2, p)) p r.2) ∧ pu_fB σ r.2) := by
  refine pu_cons (pu_rletter H.1 hn) (fun r hr => ?_)
  obtain ⟨r1, r2, r3⟩ := hr
  refine ⟨fun z => ?_, fun z => ?_, r3⟩
  · obtain ⟨g1, g2, g3⟩ := r1 z
    refine ⟨g1, pu_SR_mk H g2 id r3, ?_⟩
    rw [g3]
    exact pu_sub (b := 1) (by omega)
  · obtain ⟨g1, g2⟩ := r2 z
    exact ⟨g1, pu_SR_mk H g2 (fun y => by cases y) r3⟩
theorem pu_upd_comm {f : Nat → Int32} {i j : Nat} {x y : Int32} (hij : i ≠ j) : upd (upd f i x) j y = upd (upd f j y) i x := by
  funext k
  by_cases e1 : k = j
  · subst e1; rw [pu_upd_s, pu_upd_n (fun e => hij e.symm), pu_upd_s]
  · rw [pu_upd_n e1]
    by_cases e2 : k = i
    · subst e2; rw [pu_upd_s, pu_upd_s]
    · rw [pu_upd_n e2, pu_upd_n e2, pu_upd_n e1]
theorem pu_SR_put {i : Nat} {x : Int32} (H : pu_SR B L σ0 A none p σ) (hi : i < 1028) (h4 : i ≠ 4) : pu_SR B L σ0 (upd A i x) none p (tw_up σ 445 i x) := pu_SR_445 H hi (pu_upd_comm h4) (pu_upd_n (fun e => h4 e.symm))
theorem pu_srMark (H : pu_SR B L σ0 A none q σ) (W : pu_AW A w h) (hn : 2000 < n) : pu_wp (tw_P_X12_readMark n σ) (fun t => pu_SR B L σ0 (pu_qM B L w A q) (pu_eM2 B L w h A q) (pu_nk B L 3 q) t) := by
  obtain ⟨w1, w2, h1, h2⟩ := pu_AW_b W
  have hwh := pu_wh w2 h2
  have hB := pu_SR_B H
  unfold tw_P_X12_readMark
  refine pu_bd (pu_srM H hn) (fun r1 hr => pu_lt ?_)
  obtain ⟨g1, g2, f1⟩ := hr
  have hg : ∃ r3, tw_P_X12_isGood r1.2 = some r3 ∧ (pu_isM B L q → r3 = 1) ∧ (¬ pu_isM B L q → r3 = 0) := by
    by_cases z : pu_isM B L q
    · exact ⟨1, pu_SR_g1 (g1 z).2.1, fun _ => rfl, fun y => absurd z y⟩
    · exact ⟨0, pu_SR_g0 (g2 z).2, fun y => absurd y z, fun _ => rfl⟩
  obtain ⟨r3, hr3, e1, e0⟩ := hg
  refine pu_bde hr3 (pu_jn (R := fun t => pu_SR B L σ0 A (pu_fs (pu_fs none (pu_isM B L q) (-2) q) (A (808 + (B q - 97)) = -1) (-4) q) (pu_nk B L 1 q) t) (fun t ht => ?_) (fun f hf => ?_))
  rotate_left
  · by_cases z : pu_isM B L q
    · obtain ⟨y1, y2, y3⟩ := g1 z
      have hm := pu_isM_lt hB z
      rw [e1 z, y1, pu_l445, show (808 : Int32) + Int32.ofNat (B q - 97) = Int32.ofNat (808 + (B q - 97)) from pu_add 808 _, pu_n (show 808 + (B q - 97) < 2147483648 by omega), pu_sr445 y2 rfl (show 808 + (B q - 97) ≠ 4 by omega), y3]
      rw [pu_fs_y z] at hf
      refine pu_iff pu_10 (pu_ck (pu_ok (by omega) (by omega)) (pu_if (fun c => hf _ ?_) (fun c => ?_)))
      · rw [pu_fs_y c]; exact y2
      · exact pu_bd (pu_srF (o := q) y2 (by decide) (fun _ => rfl)) (fun t ht => hf _ (pu_SR_c ht.1 (pu_fs_n c)))
    · rw [pu_fs_n z] at hf
      rw [e0 z]
      exact pu_ift rfl (hf _ (pu_SR_any (g2 z).2))
  refine pu_bd (pu_srLand ht (fun _ => ⟨W.1, W.2.2.2.1.1⟩) w1 w2 h1 h2 hn) (fun r6 hr => pu_lt ?_)
  obtain ⟨k1, k2, -⟩ := hr
  have e2 : pu_eL B L w h (pu_land A) (pu_fs (pu_fs none (pu_isM B L q) (-2) q) (A (808 + (B q - 97)) = -1) (-4) q) (pu_nk B L 1 q) = pu_eM2 B L w h A q := rfl
  rw [e2] at k1 k2
  cases hE : pu_eM2 B L w h A q with
  | some e =>
    have k2' : pu_SR B L σ0 A (some e) (pu_nk B L 3 q) r6.2 := pu_SR_c k2 hE.symm
    exact pu_bde (pu_SR_g0 k2') (pu_jn0 (pu_ift rfl (pu_some (pu_SR_any k2'))))
  | none =>
    have k2' : pu_SR B L σ0 A none (pu_nk B L 3 q) r6.2 := pu_SR_c k2 hE.symm
    have z := (pu_fs0.mp (pu_fs0.mp (pu_eL0 w1 h1 hE).1).1).2
    have hm := pu_isM_lt hB z
    rw [(g1 z).1, k1 hE, pu_l445, show (808 : Int32) + Int32.ofNat (B q - 97) = Int32.ofNat (808 + (B q - 97)) from pu_add 808 _, pu_n (show 808 + (B q - 97) < 2147483648 by omega)]
    exact pu_bde (pu_SR_g1 k2') (pu_jn0 (pu_iff pu_10 (pu_ck (pu_ok (by omega) (by omega)) (pu_lt (pu_some (pu_SR_put k2' (by omega) (by omega)))))))
theorem pu_srTeam (H : pu_SR B L σ0 A none (pu_nx B L p) σ) (W : pu_AW A w h) (hn : 2000 < n) : pu_wp (tw_P_X12_readTeam n (Int32.ofNat p) σ) (fun t => pu_SR B L σ0 (pu_qT B L w A p) (pu_eT2 B L w h A p) (pu_nk B L 3 p) t) := by
  obtain ⟨w1, w2, h1, h2⟩ := pu_AW_b W
  unfold tw_P_X12_readTeam
  refine pu_jn (R := fun t => pu_SR B L σ0 A (pu_fs none (A 4 = -1) (-2) p) (pu_nx B L p) t) (fun t ht => ?_) (fun f hf => ?_)
  rotate_left
  · rw [(H.2.2.1 rfl).2]
    refine pu_if (fun c => hf _ ?_) (fun c => ?_)
    · rw [pu_fs_y c]; exact H
    · exact pu_bd (pu_srF (o := p) H (by decide) (fun _ => rfl)) (fun t ht => hf _ (pu_SR_c ht.1 (pu_fs_n c)))
  refine pu_bd (pu_srLand ht (fun _ => ⟨W.1, W.2.2.2.1.1⟩) w1 w2 h1 h2 hn) (fun r3 hr => pu_lt ?_)
  obtain ⟨k1, k2, -⟩ := hr
  have e2 : pu_eL B L w h (pu_land A) (pu_fs none (A 4 = -1) (-2) p) (pu_nx B L p) = pu_eT2 B L w h A p := rfl
  rw [e2] at k1 k2
  cases hE : pu_eT2 B L w h A p with
  | some e =>
    have k2' : pu_SR B L σ0 A (some e) (pu_nk B L 3 p) r3.2 := pu_SR_c k2 hE.symm
    exact pu_bde (pu_SR_g0 k2') (pu_jn0 (pu_ift rfl (pu_some (pu_SR_any k2'))))
  | none =>
    have k2' : pu_SR B L σ0 A none (pu_nk B L 3 p) r3.2 := pu_SR_c k2 hE.symm
    rw [k1 hE]
    refine pu_bde (pu_SR_g1 k2') (pu_jn0 (pu_iff pu_10 (pu_lt (pu_some ?_))))
    obtain ⟨⟨a1, a2, a3⟩, x2, x3, x4⟩ := k2'
    obtain ⟨x5, x6⟩ := x3 rfl
    refine ⟨⟨pu_rT_up a1 (by decide), pu_eRr_up a2 (by decide) (by decide), fun z => ?_⟩, fun j hj => by rw [tw_up_n (by decide)]; exact x2 j hj, fun _ => ⟨?_, ?_⟩, pu_fT_trans x4 ⟨fun k b _ => tw_up_n b, fun i b c => pu_u442 (by omega)⟩⟩
    · rw [pu_u442 (show 4 ≠ 13 by decide)]; exact a3 z
    · rw [tw_up_n (show 445 ≠ 442 by decide), x5]
      funext j
      unfold pu_qT
      by_cases e : j = 4
      · subst e; rw [pu_upd_s, pu_upd_s]
      · rw [pu_upd_n e, pu_upd_n e, pu_upd_n e]
    · unfold pu_qT
      rw [pu_u442s, pu_upd_s]
/-! a known mark, a start -/
theorem pu_srK (H : pu_SR B L σ0 A none p σ) (hn : 2000 < n) : pu_wp (tw_P_X12_knownMark n σ) (fun r => (pu_eK B L A none p = none → r.1 = Int32.ofNat (B p - 97) ∧ r.2 442 4 - (1 : Int32) = Int32.ofNat p) ∧ pu_SR B L σ0 A (pu_eK B L A none p) (pu_nx B L p) r.2 ∧ pu_fB σ r.2) := by
  have hB := pu_SR_B H
  unfold tw_P_X12_knownMark
  refine pu_bd (pu_srM H hn) (fun r1 hr => pu_lt ?_)
  obtain ⟨g1, g2, f1⟩ := hr
  by_cases z : pu_isM B L p
  · obtain ⟨y1, y2, y3⟩ := g1 z
    have hm := pu_isM_lt hB z
    rw [y1, pu_l445, show (808 : Int32) + Int32.ofNat (B p - 97) = Int32.ofNat (808 + (B p - 97)) from pu_add 808 _, pu_n (show 808 + (B p - 97) < 2147483648 by omega), pu_sr445 y2 rfl (show 808 + (B p - 97) ≠ 4 by omega)]
    refine pu_bde (pu_SR_g1 y2) (pu_jn0 (pu_iff pu_10 (pu_ck (pu_ok (by omega) (by omega)) (pu_if (fun c => ?_) (fun c => ?_)))))
    · have e : pu_eK B L A none p = none := by unfold pu_eK; rw [pu_fs_y z, pu_fs_y c]
      rw [e]
      exact pu_some ⟨fun _ => ⟨rfl, y3⟩, y2, f1⟩
    · have e : pu_eK B L A none p = some (-5, p) := by unfold pu_eK; rw [pu_fs_y z, pu_fs_n c]
      rw [e, y3]
      exact pu_bd (pu_srF (o := p) y2 (by decide) (fun _ => rfl)) (fun t ht => pu_some ⟨fun y => (by cases y), ht.1, pu_fB_trans f1 ht.2⟩)
  · obtain ⟨y1, y2⟩ := g2 z
    have e : pu_eK B L A none p = some (-2, p) := by unfold pu_eK; rw [pu_fs_n z]; rfl
    rw [e]
    exact pu_bde (pu_SR_g0 y2) (pu_jn0 (pu_ift rfl (pu_some ⟨fun y => (by cases y), pu_SR_any y2, f1⟩)))
theorem pu_srZ (H : pu_SR B L σ0 A none p σ) (W : pu_AQ A w h q) (hn : 2000 < n) : pu_wp (tw_P_X12_readStart n (Int32.ofNat (pu_cl q)) σ) (fun t => pu_SR B L σ0 (pu_qZ B A q p) (pu_eZ B L A q none p) (pu_nx B L p) t) := by
  have hB := pu_SR_B H
  have hq4 := W.2.1
  have hcl : 856 ≤ pu_cl q := by unfold pu_cl; omega
  have hcl2 : pu_cl q + 43 ≤ 1028 := by unfold pu_cl; omega
  obtain ⟨-, f2, -, f4, -⟩ := W.2.2.1
  have n9 : pu_ns A q < 9 := f2.2
  have hns : A (pu_cl q + 1) = Int32.ofNat (pu_ns A q) := f2.1
  unfold tw_P_X12_readStart
  refine pu_bd (pu_srK H hn) (fun r1 hr => pu_lt (pu_lt ?_))
  obtain ⟨g1, g2, fb⟩ := hr
  have hrow : ∀ j, j ≠ 4 → r1.2 445 j = A j := fun j hj => by rw [fb.1 445 (by decide)]; exact pu_sr445 H rfl hj
  have hI : ∀ k, Int32.ofNat (pu_cl q) + Int32.ofNat k = Int32.ofNat (pu_cl q + k) := fun k => pu_add _ k
  have e1 : Int32.ofNat (pu_cl q) + (1 : Int32) = Int32.ofNat (pu_cl q + 1) := pu_add _ 1
  have e3 : Int32.ofNat (pu_cl q) + (3 : Int32) = Int32.ofNat (pu_cl q + 3) := pu_add _ 3
  rw [e1, e3, pu_l445, pu_n (show pu_cl q + 1 < 2147483648 by omega)]
  refine pu_lp (J := fun x => ∃ i, i ≤ pu_ns A q ∧ x.1 = Int32.ofNat i ∧ pu_SR B L σ0 A (pu_fs (pu_eK B L A none p) (∀ k, k < i → pu_v A (pu_cl q + 3 + k) ≠ B p - 97) (-4) p) (pu_nx B L p) x.2 ∧ (pu_fs (pu_eK B L A none p) (∀ k, k < i → pu_v A (pu_cl q + 3 + k) ≠ B p - 97) (-4) p = none → x.2 442 4 - (1 : Int32) = Int32.ofNat p) ∧ ∀ j, j ≠ 4 → x.2 445 j = A j) (m := fun x => 20 - x.1.toNatClampNeg) ?_ n _ (by show 20 - _ < n; omega) ⟨0, Nat.zero_le _, rfl, ?_, fun z => (g1 (pu_fs0.mp z).1).2, hrow⟩
  rotate_left
  · rw [pu_fs_yE (fun k hk => absurd hk (Nat.not_lt_zero _))]; exact g2
  clear g2 hrow fb
  rintro k5 ⟨ii, s⟩ ⟨i, hi, e, HS, h4, hrow⟩ hk5
  dsimp only [] at e HS h4 hrow
  subst e
  dsimp only []
  refine pu_ck (pu_ok (by omega) (by omega)) ?_
  refine pu_if (fun c => ?_) (fun c => ?_) <;> rw [hrow (pu_cl q + 1) (by omega), hns, pu_le (by omega) (by omega)] at c
  · have hii : i = pu_ns A q := by omega
    subst hii
    have eZ : pu_fs (pu_eK B L A none p) (∀ k, k < pu_ns A q → pu_v A (pu_cl q + 3 + k) ≠ B p - 97) (-4) p = pu_eZ B L A q none p := rfl
    rw [eZ] at HS
    cases hE : pu_eZ B L A q none p with
    | some e =>
      have HS' : pu_SR B L σ0 A (some e) (pu_nx B L p) s := pu_SR_c HS hE.symm
      exact pu_bde (pu_SR_g0 HS') (pu_iff (fun z => z rfl) (pu_some (pu_SR_any HS')))
    | none =>
      have HS' : pu_SR B L σ0 A none (pu_nx B L p) s := pu_SR_c HS hE.symm
      obtain ⟨n8, -⟩ := pu_Z_AQ hB W hE
      refine pu_bde (pu_SR_g1 HS') (pu_ift pu_10 ?_)
      rw [(g1 (pu_fs0.mp hE).1).1, hrow (pu_cl q + 1) (by omega), hns, pu_add, pu_n (show pu_cl q + 3 + pu_ns A q < 2147483648 by omega)]
      refine pu_ck (pu_ok (by omega) (by omega)) (pu_ck (pu_ok (by omega) (by omega)) (pu_lt (pu_ck (pu_ok (by omega) (by omega)) (pu_ck (pu_ok (by omega) (by omega)) (pu_lt (pu_some ?_))))))
      have H2 := pu_SR_put (x := Int32.ofNat (B p - 97)) HS' (show pu_cl q + 3 + pu_ns A q < 1028 by omega) (by omega)
      rw [show tw_up s 445 (pu_cl q + 3 + pu_ns A q) (Int32.ofNat (B p - 97)) 445 (pu_cl q + 1) = Int32.ofNat (pu_ns A q) from by rw [tw_up_s, pu_upd_n (by omega), hrow _ (by omega), hns], show Int32.ofNat (pu_ns A q) + (1 : Int32) = Int32.ofNat (pu_ns A q + 1) from pu_add _ 1]
      exact pu_SR_put H2 (show pu_cl q + 1 < 1028 by omega) (by omega)
  · have s1 := (f4 i (by omega)).1
    have em : Int32.ofNat i + (1 : Int32) = Int32.ofNat (i + 1) := pu_add i 1
    have hm : 20 - (Int32.ofNat (i + 1)).toNatClampNeg < 20 - (Int32.ofNat i).toNatClampNeg := by
      rw [pu_n (by omega), pu_n (by omega)]
      omega
    have s2 := s1.2
    cases hE : pu_fs (pu_eK B L A none p) (∀ k, k < i → pu_v A (pu_cl q + 3 + k) ≠ B p - 97) (-4) p with
    | some e =>
      have HS' : pu_SR B L σ0 A (some e) (pu_nx B L p) s := pu_SR_c HS hE.symm
      rw [em]
      refine pu_bde (pu_SR_g0 HS') (pu_jn0 (pu_ift rfl (pu_lt (hk5 _ ⟨i + 1, by omega, rfl, ?_, ?_, hrow⟩ hm))))
      all_goals
        have e2 : pu_fs (pu_eK B L A none p) (∀ k, k < i + 1 → pu_v A (pu_cl q + 3 + k) ≠ B p - 97) (-4) p = some e := by
          generalize pu_eK B L A none p = E1 at hE
          cases E1 with
          | some x => exact hE
          | none =>
            rw [← hE]
            by_cases c1 : ∀ k, k < i → pu_v A (pu_cl q + 3 + k) ≠ B p - 97
            · rw [pu_fs_y c1] at hE; cases hE
            · rw [pu_fs_n c1, pu_fs_n (fun z => c1 (fun k hk => z k (by omega)))]
        rw [e2]
      · exact HS'
      · exact fun z => (by cases z)
    | none =>
      have HS' : pu_SR B L σ0 A none (pu_nx B L p) s := pu_SR_c HS hE.symm
      obtain ⟨z1, z2⟩ := pu_fs0.mp hE
      have hm8 : B p - 97 < 8 := (pu_eK0 hB W z1).2.1
      rw [em, (g1 z1).1, pu_add, pu_n (show pu_cl q + 3 + i < 2147483648 by omega)]
      refine pu_bde (pu_SR_g1 HS') (pu_jn0 (pu_iff pu_10 (pu_ck (pu_ok (by omega) (by omega)) (pu_if (fun c2 => ?_) (fun c2 => ?_))))) <;> rw [hrow (pu_cl q + 3 + i) (by omega), s1.1, pu_eq (by omega) (by omega)] at c2
      · have e2 : pu_fs (pu_eK B L A none p) (∀ k, k < i + 1 → pu_v A (pu_cl q + 3 + k) ≠ B p - 97) (-4) p = none := by
          rw [z1, pu_fs_y (fun k hk => ?_)]
          by_cases e : k = i
          · subst e; exact c2
          · exact z2 k (by omega)
        exact pu_lt (hk5 _ ⟨i + 1, by omega, rfl, pu_SR_c HS' e2, fun _ => h4 hE, hrow⟩ hm)
      · have c2 := Classical.not_not.mp c2
        have e2 : pu_fs (pu_eK B L A none p) (∀ k, k < i + 1 → pu_v A (pu_cl q + 3 + k) ≠ B p - 97) (-4) p = some (-4, p) := by
          rw [z1, pu_fs_n (fun z => z i (by omega) c2)]
        rw [h4 hE]
        refine pu_bd (pu_srF (o := p) HS' (by decide) (fun _ => rfl)) (fun t ht => pu_lt (hk5 _ ⟨i + 1, by omega, rfl, pu_SR_c ht.1 e2, fun z => ?_, fun j hj => (congrFun (ht.2.1 445 (by decide)) j).trans (hrow j hj)⟩ hm))
        rw [e2] at z
        cases z
end RMK
