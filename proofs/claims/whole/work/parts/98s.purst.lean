/-! the reference: water, land, marks, the team -/
section RST
variable {σ σ0 : tw_Sg} {B : Nat → Nat} {L p n w h : Nat} {E : Option (Int32 × Nat)} {A A' : Nat → Int32}
theorem pu_SR_g (H : pu_SR B L σ0 A E p σ) : tw_P_X12_isGood σ = some (if E = none then 1 else 0) := pu_isGood H.1.2.1
theorem pu_30 {y : Nat} (hy : y < 30) : 30 - (y + 1) < 30 - y := by omega
theorem pu_SR_g1 (H : pu_SR B L σ0 A none p σ) : tw_P_X12_isGood σ = some 1 := (pu_SR_g H).trans (by rw [if_pos rfl])
theorem pu_SR_g0 {e : Int32 × Nat} (H : pu_SR B L σ0 A (some e) p σ) : tw_P_X12_isGood σ = some 0 := (pu_SR_g H).trans (by rw [if_neg (by intro z; cases z)])
theorem pu_srH (H : pu_SR B L σ0 A none p σ) (hn : 2000 < n) : pu_wp (tw_P_X12_ahead n σ) (fun r => r.1 = pu_nb1 B L p ∧ pu_SR B L σ0 A none p r.2 ∧ r.2 442 4 = Int32.ofNat p ∧ pu_fB σ r.2) := pu_cons (pu_ahead H.1 hn) (fun r hr => ⟨hr.1, pu_SR_mk H hr.2.1.1 id hr.2.2, hr.2.1.2, hr.2.2⟩)
theorem pu_semi_nb (hB : ∀ i, i < L → B i < 256) : pu_nb1 B L p = (59 : Int32) ↔ pu_semi B L p = true := by
  unfold pu_nb1 pu_semi
  by_cases c : p < L
  · have := hB p c
    rw [if_pos c, show (59 : Int32) = Int32.ofNat 59 from rfl, pu_eq (by omega) (by decide), decide_eq_true_iff]
    exact ⟨fun z => ⟨c, z⟩, fun z => z.2⟩
  · rw [if_neg c, decide_eq_true_iff]
    exact ⟨fun z => absurd z (by decide), fun z => absurd z.1 c⟩
theorem pu_SR_B (H : pu_SR B L σ0 A E p σ) : ∀ i, i < L → B i < 256 := fun i hi => (H.1.1.2.2 i hi).2
noncomputable def pu_eW3 (B : Nat → Nat) (L w h : Nat) (A : Nat → Int32) (q : Nat) : Option (Int32 × Nat) := pu_fs (pu_eW2 B L w h A q) (pu_semi B L (pu_nk B L 4 q) = true → ∃ c, c < w * h ∧ pu_land (pu_qW B L w h A q) c = true) (-7) (pu_nk B L 4 q)
theorem pu_eW_eq {q : Nat} : pu_eW B L w h A q = pu_fs (pu_eW3 B L w h A q) (pu_semi B L (pu_nk B L 4 q) = true) (-2) (pu_nk B L 4 q) := pu_fs_comm.symm
/-- another row -/
theorem pu_SR_row {σ' : tw_Sg} (H : pu_SR B L σ0 A E p σ) (hf : ∀ k, k ≠ 445 → σ' k = σ k) (hz : ∀ j, 1028 ≤ j → σ' 445 j = 0) (hE : E = none → σ' 445 = upd A' 4 0 ∧ A' 4 = A 4) : pu_SR B L σ0 A' E p σ' := by
  obtain ⟨⟨⟨a1, a2, a3⟩, a4, a5⟩, h2, h3, h4⟩ := H
  have e442 : σ' 442 = σ 442 := hf 442 (by decide)
  have e443 : σ' 443 = σ 443 := hf 443 (by decide)
  refine ⟨⟨⟨by rw [e442]; exact a1, a2, fun i hi => by rw [e443]; exact a3 i hi⟩, ?_, fun z => by rw [e442]; exact a5 z⟩, hz, fun z => ⟨(hE z).1, by rw [e442, (h3 z).2, (hE z).2]⟩, pu_fT_trans h4 ⟨fun k _ b => hf k b, fun i _ _ => by rw [e442]⟩⟩
  unfold pu_eRr at a4 ⊢
  rw [e442]
  exact a4
theorem pu_eR_A4 (W : pu_AW A w h) : A 4 = pu_eR (pu_tm A) := by
  unfold pu_tm
  by_cases c : A 4 = -1
  · rw [if_pos c, c]; rfl
  · rw [if_neg c]
    exact (W.2.2.2.2.1.resolve_left c).1
theorem pu_eR_mk (W : pu_AW A w h) {m : Nat} (hm : m < 8) : A (808 + m) = pu_eR (pu_mk A m) := by
  unfold pu_mk
  by_cases c : A (808 + m) = -1
  · rw [if_pos c, c]; rfl
  · rw [if_neg c]
    exact ((W.2.2.2.1.2.2.1 m hm).resolve_left c).1
/-- the part of the rectangle above and left of a place is water -/
def pu_wz (w h x0 y0 x1 y1 y x : Nat) (c : Nat) : Prop := c < w * h ∧ pu_inA w x0 y0 x1 y1 c = true ∧ (c / w < y ∨ (c / w = y ∧ c % w < x))
theorem pu_srWater {q : Nat} (H : pu_SR B L σ0 A none q σ) (W : pu_AW A w h) (hn : 2000 < n) : pu_wp (tw_P_X12_readWater n σ) (fun t => pu_SR B L σ0 (pu_qW B L w h A q) (pu_eW3 B L w h A q) (pu_nk B L 4 q) t) := by
  obtain ⟨w1, w2, h1, h2⟩ := pu_AW_b W
  have hwh := pu_wh w2 h2
  have hB := pu_SR_B H
  unfold tw_P_X12_readWater
  refine pu_bd (pu_srArea H W.1 hn) (fun r1 hr => ?_)
  obtain ⟨H1, hv⟩ := hr
  cases hE1 : pu_eA B L w h none q with
  | some e =>
    rw [hE1] at H1
    refine pu_bde (pu_SR_g0 H1) (pu_iff (fun z => z rfl) (pu_some ?_))
    have : pu_eW3 B L w h A q = some e := by unfold pu_eW3 pu_eW2; rw [hE1]; rfl
    rw [this]
    exact ⟨H1.1, H1.2.1, fun z => (by cases z), H1.2.2.2⟩
  | none =>
  refine pu_bde (pu_SR_g1 (by rw [hE1] at H1; exact H1)) (pu_ift pu_10 ?_)
  obtain ⟨e14, e15, e16, e17, e18⟩ := hv hE1
  obtain ⟨-, q1, q2, q3, q4⟩ := pu_eA0 hE1
  have hE2 : pu_eW2 B L w h A q = pu_fs none (¬ pu_onA A w (pu_num B L q) (pu_num B L (pu_nk B L 1 q)) (pu_num B L (pu_nk B L 2 q)) (pu_num B L (pu_nk B L 3 q))) (-7) q := by unfold pu_eW2; rw [hE1]
  have hQ : pu_qW B L w h A q = pu_aW A w h (pu_num B L q) (pu_num B L (pu_nk B L 1 q)) (pu_num B L (pu_nk B L 2 q)) (pu_num B L (pu_nk B L 3 q)) := rfl
  have hE3 : pu_eW3 B L w h A q = pu_fs (pu_eW2 B L w h A q) (pu_semi B L (pu_nk B L 4 q) = true → ∃ c, c < w * h ∧ pu_land (pu_qW B L w h A q) c = true) (-7) (pu_nk B L 4 q) := rfl
  rw [hE1] at H1
  rw [hE3, hE2, hQ]
  clear hE3 hE2 hQ hv hE1
  generalize pu_num B L q = x0 at *
  generalize pu_num B L (pu_nk B L 1 q) = y0 at *
  generalize pu_num B L (pu_nk B L 2 q) = x1 at *
  generalize pu_num B L (pu_nk B L 3 q) = y1 at *
  generalize pu_nk B L 4 q = p5 at *
  have hsq : pu_sq w h x0 y0 x1 y1 := ⟨q1, by omega, q3, by omega⟩
  have r445 : ∀ j, j ≠ 4 → r1 445 j = A j := fun j hj => pu_sr445 H1 rfl hj
  have hw0 : r1 445 0 = Int32.ofNat w := (r445 0 (by decide)).trans W.1.1
  have hh0 : r1 445 1 = Int32.ofNat h := (r445 1 (by decide)).trans W.1.2.1
  have e13 : r1 442 13 = pu_eR (pu_tm A) := (H1.2.2.1 rfl).2.trans (pu_eR_A4 W)
  rw [e13]
  refine pu_bde (pu_rInA w1 w2 h2 hsq hw0 e15 e16 e17 e18 (fun c hc => (pu_AW_tm W hc).1)) (pu_lt (pu_lt ?_))
  refine pu_lp (J := fun x => ∃ m, m ≤ 8 ∧ x.2 = Int32.ofNat m ∧ ∃ b : Bool, x.1 = pu_b1 b ∧ (b = true ↔ (∃ k, k < m ∧ pu_mA A w x0 y0 x1 y1 k = true) ∨ pu_oA w x0 y0 x1 y1 (pu_tm A) = true)) (m := fun x => 10 - x.2.toNatClampNeg) ?_ n _ (by show 10 - _ < n; omega) ⟨0, by omega, rfl, _, rfl, ⟨fun z => Or.inr z, fun z => z.resolve_left (fun y => by obtain ⟨k, y1, -⟩ := y; omega)⟩⟩
  rintro k7 ⟨vv, mm⟩ ⟨m, hm, e1, b, e2, hb⟩ hk7
  dsimp only [] at e1 e2
  subst e1; subst e2
  dsimp only []
  refine pu_if (fun c => ?_) (fun c => ?_) <;> rw [show (8 : Int32) = Int32.ofNat 8 from rfl, pu_le (by decide) (by omega)] at c
  rotate_left
  · rw [pu_l445, show (808 : Int32) + Int32.ofNat m = Int32.ofNat (808 + m) from pu_add 808 m, pu_n (show 808 + m < 2147483648 by omega), r445 (808 + m) (by omega), pu_eR_mk W (show m < 8 by omega)]
    refine pu_ck (pu_ok (by omega) (by omega)) (pu_bde (pu_rInA w1 w2 h2 hsq hw0 e15 e16 e17 e18 (fun c hc => (pu_AW_mk W (show m < 8 by omega) hc).1)) ?_)
    rw [pu_b1or]
    refine pu_lt (pu_lt ?_)
    have em : Int32.ofNat m + (1 : Int32) = Int32.ofNat (m + 1) := pu_add m 1
    rw [em]
    refine hk7 _ ⟨m + 1, by omega, rfl, _, rfl, ?_⟩ ?_
    · rw [Bool.or_eq_true, hb]
      constructor
      · rintro ((⟨k, z1, z2⟩ | z) | z)
        · exact Or.inl ⟨k, by omega, z2⟩
        · exact Or.inr z
        · exact Or.inl ⟨m, by omega, z⟩
      · rintro (⟨k, z1, z2⟩ | z)
        · by_cases e : k = m
          · subst e; exact Or.inr z2
          · exact Or.inl (Or.inl ⟨k, by omega, z2⟩)
        · exact Or.inl (Or.inr z)
    · show 10 - (Int32.ofNat (m + 1)).toNatClampNeg < 10 - (Int32.ofNat m).toNatClampNeg
      rw [pu_n (by omega), pu_n (by omega)]
      omega
  have hm8 : m = 8 := by omega
  subst hm8
  have hb : b = true ↔ pu_onA A w x0 y0 x1 y1 := hb
  clear hk7
  refine pu_jn (R := fun t => pu_SR B L σ0 A (pu_fs none (¬ pu_onA A w x0 y0 x1 y1) (-7) q) p5 t ∧ (∀ i, 14 ≤ i ∧ i < 19 → t 442 i = r1 442 i) ∧ t 445 = r1 445) (fun t ht => ?_) (fun f hf => ?_)
  rotate_left
  · refine pu_if (fun c => hf _ ⟨?_, fun i _ => rfl, rfl⟩) (fun c => ?_) <;> rw [pu_b1_0] at c
    · rw [pu_fs_y (fun z => by rw [hb.mpr z] at c; cases c)]
      exact H1
    · rw [e14]
      refine pu_bd (pu_srF (o := q) H1 (by decide) (fun _ => rfl)) (fun t ht => hf _ ⟨?_, fun i hi => ht.2.2 i (by omega) (by omega) (by omega) (by omega), ht.2.1 445 (by decide)⟩)
      rw [pu_fs_n (fun z => z (hb.mp (pu_bF c)))]
      exact ht.1
  obtain ⟨H2, t442, t445⟩ := ht
  refine pu_lt ?_
  rw [t442 16 (by decide), e16]
  have hrow0 : ∀ j, t 445 j = if j = 4 then 0 else A j := fun j => by
    rw [t445, (H1.2.2.1 rfl).1]
    rfl
  refine pu_lp (J := fun x => ∃ y, y0 ≤ y ∧ y ≤ y1 + 1 ∧ x.1 = Int32.ofNat y ∧ (∀ k, k ≠ 445 → x.2 k = t k) ∧ (∀ c, pu_wz w h x0 y0 x1 y1 y 0 c → x.2 445 (8 + c) = 1) ∧ ∀ j, (¬ ∃ c, j = 8 + c ∧ pu_wz w h x0 y0 x1 y1 y 0 c) → x.2 445 j = t 445 j) (m := fun x => 30 - x.1.toNatClampNeg) ?_ n _ (by show 30 - _ < n; omega) ⟨y0, Nat.le_refl _, by omega, rfl, fun _ _ => rfl, fun c hc => ?_, fun _ _ => rfl⟩
  rotate_left
  · obtain ⟨-, z1, z2⟩ := hc
    have := of_decide_eq_true z1
    omega
  rintro k12 ⟨yy, s⟩ ⟨y, hy0, hy1, e1, hf, hin, hout⟩ hk12
  dsimp only [] at e1 hf hin hout
  subst e1
  dsimp only []
  have s442 : s 442 = t 442 := hf 442 (by decide)
  have hy30 : y < 30 := by omega
  refine pu_if (fun c => ?_) (fun c => ?_) <;> rw [s442, t442 18 (by decide), e18, pu_ltn (by omega) (by omega)] at c
  · -- done
    have hrow : ∀ j, s 445 j = upd (pu_aW A w h x0 y0 x1 y1) 4 0 j := fun j => by
      by_cases e4 : j = 4
      · subst e4
        rw [pu_upd_s, hout 4 (by rintro ⟨c, z, -⟩; omega), hrow0, if_pos rfl]
      rw [pu_upd_n e4]
      unfold pu_aW
      by_cases z : 8 ≤ j ∧ j < 8 + w * h ∧ pu_inA w x0 y0 x1 y1 (j - 8) = true
      · rw [if_pos z]
        have := of_decide_eq_true z.2.2
        have g := hin (j - 8) ⟨by omega, z.2.2, Or.inl (by omega)⟩
        rw [show 8 + (j - 8) = j from by omega] at g
        exact g
      · rw [if_neg z, hout j (by rintro ⟨c, z1, z2, z3, -⟩; exact z ⟨by omega, by omega, by rw [show j - 8 = c from by omega]; exact z3⟩), hrow0, if_neg e4]
    have H3 : pu_SR B L σ0 (pu_aW A w h x0 y0 x1 y1) (pu_fs none (¬ pu_onA A w x0 y0 x1 y1) (-7) q) p5 s := pu_SR_row H2 hf (fun j hj => by rw [hrow, pu_upd_n (by omega), pu_aW_out w2 h2 (by omega)]; exact W.2.2.2.2.2.1 j hj) (fun _ => ⟨funext hrow, pu_aW_out w2 h2 (by omega)⟩)
    generalize pu_fs none (¬ pu_onA A w x0 y0 x1 y1) (-7) q = E2 at H3
    cases E2 with
    | some e =>
      exact pu_bde (pu_SR_g0 H3) (pu_jn0 (pu_ift rfl (pu_some H3)))
    | none =>
      refine pu_bde (pu_SR_g1 H3) (pu_jn0 (pu_iff pu_10 (pu_bd (pu_srH H3 hn) (fun r16 hr => ?_))))
      obtain ⟨g1, H4, g4, gf⟩ := hr
      rw [g1]
      refine pu_if (fun c1 => ?_) (fun c1 => ?_) <;> rw [pu_semi_nb hB] at c1
      · rw [pu_fs_y (fun z => absurd z c1)]
        exact pu_some H4
      · have c1 := Classical.not_not.mp c1
        have a445 : ∀ j, j ≠ 4 → r16.2 445 j = pu_aW A w h x0 y0 x1 y1 j := fun j hj => pu_sr445 H4 rfl hj
        refine pu_bd (pu_rFirst (A := pu_aW A w h x0 y0 x1 y1) w2 h2 ((a445 0 (by decide)).trans ((pu_aW_out w2 h2 (by omega)).trans W.1.1)) ((a445 1 (by decide)).trans ((pu_aW_out w2 h2 (by omega)).trans W.1.2.1)) (fun c hc => a445 _ (by omega)) (fun c hc => ?_) hn) (fun r17 hr => ?_)
        · unfold pu_aW
          by_cases z : 8 ≤ 8 + c ∧ 8 + c < 8 + w * h ∧ pu_inA w x0 y0 x1 y1 (8 + c - 8) = true
          · rw [if_pos z]; exact Or.inr rfl
          · rw [if_neg z]; exact W.2.2.2.1.1 c hc
        obtain ⟨f1, f2⟩ := hr
        by_cases z : ∃ c, c < w * h ∧ pu_land (pu_aW A w h x0 y0 x1 y1) c = true
        · rw [pu_fs_y (fun _ => z)]
          exact pu_ift (f1 z).2 (pu_some H4)
        · refine pu_iff (fun y => y (f2 z)) ?_
          rw [g4, pu_fs_nE (fun y => z (y c1))]
          exact pu_bd (pu_srF (o := p5) H4 (by decide) (fun _ => rfl)) (fun u hu => pu_some hu.1)
  · refine pu_lt ?_
    rw [show s 442 15 = Int32.ofNat x0 from by rw [s442, t442 15 (by decide), e15]]
    refine pu_lp (J := fun z => ∃ x, x0 ≤ x ∧ x ≤ x1 + 1 ∧ z.1 = Int32.ofNat y ∧ z.2.1 = Int32.ofNat x ∧ (∀ k, k ≠ 445 → z.2.2 k = t k) ∧ (∀ c, pu_wz w h x0 y0 x1 y1 y x c → z.2.2 445 (8 + c) = 1) ∧ ∀ j, (¬ ∃ c, j = 8 + c ∧ pu_wz w h x0 y0 x1 y1 y x c) → z.2.2 445 j = t 445 j) (m := fun z => 30 - z.2.1.toNatClampNeg) ?_ n _ (by show 30 - _ < n; omega) ⟨x0, Nat.le_refl _, by omega, rfl, rfl, hf, fun c hc => ?_, fun j hj => ?_⟩
    rotate_left
    · obtain ⟨z1, z2, z3⟩ := hc
      have := of_decide_eq_true z2
      exact hin c ⟨z1, z2, by omega⟩
    · refine hout j (fun z => hj ?_)
      obtain ⟨c, z1, z2, z3, z4⟩ := z
      exact ⟨c, z1, z2, z3, by omega⟩
    clear hin hout hf s442
    rintro k21 ⟨yy, xx, s⟩ ⟨x, hx0, hx1, e1, e2, hf, hin, hout⟩ hk21
    dsimp only [] at e1 e2 hf hin hout
    subst e1; subst e2
    dsimp only []
    have s442 : s 442 = t 442 := hf 442 (by decide)
    refine pu_if (fun c2 => ?_) (fun c2 => ?_) <;> rw [s442, t442 17 (by decide), e17, pu_ltn (by omega) (by omega)] at c2
    · refine pu_lt ?_
      have em : Int32.ofNat y + (1 : Int32) = Int32.ofNat (y + 1) := pu_add y 1
      rw [em]
      refine hk12 _ ⟨y + 1, by omega, by omega, rfl, hf, fun d hd => hin d ?_, fun j hj => hout j (fun z => hj ?_)⟩ ?_
      · obtain ⟨z1, z2, z3⟩ := hd
        have := of_decide_eq_true z2
        exact ⟨z1, z2, by omega⟩
      · obtain ⟨d, z1, z2, z3, z4⟩ := z
        exact ⟨d, z1, z2, z3, by omega⟩
      · show 30 - (Int32.ofNat (y + 1)).toNatClampNeg < 30 - (Int32.ofNat y).toNatClampNeg
        rw [pu_n (show y + 1 < 2147483648 from Nat.lt_of_lt_of_le (Nat.succ_lt_succ hy30) (by decide)), pu_n (Nat.lt_of_lt_of_le hy30 (by decide))]
        exact pu_30 hy30
    have hxw : x < w := by omega
    have hyh : y < h := by omega
    have hd := pu_cell_lt (q := y) (r := x) hyh hxw
    obtain ⟨d1, d2⟩ := pu_dm (w := w) (q := y) (r := x) hxw
    have s0 : s 445 0 = Int32.ofNat w := by
      rw [hout 0 (by rintro ⟨c, z, -⟩; omega), t445]
      exact hw0
    have ei : ((8 : Int32) + Int32.ofNat y * Int32.ofNat w) + Int32.ofNat x = Int32.ofNat (8 + (y * w + x)) := by
      rw [pu_mul, show (8 : Int32) + Int32.ofNat (y * w) = Int32.ofNat (8 + y * w) from pu_add 8 _, pu_add, Nat.add_assoc]
    rw [pu_l445, show Int32.toNatClampNeg (0 : Int32) = 0 from rfl, s0, ei, pu_n (show 8 + (y * w + x) < 2147483648 by omega)]
    refine pu_ck (by decide) (pu_ck (pu_ok (by omega) (by omega)) (pu_lt (pu_lt ?_)))
    have em : Int32.ofNat x + (1 : Int32) = Int32.ofNat (x + 1) := pu_add x 1
    rw [em]
    refine hk21 _ ⟨x + 1, by omega, by omega, rfl, rfl, fun k hk => (tw_up_n hk).trans (hf k hk), fun d hd' => ?_, fun j hj => ?_⟩ ?_
    · dsimp only []
      rw [tw_up_s]
      by_cases e : d = y * w + x
      · subst e; exact pu_upd_s
      · rw [pu_upd_n (by omega)]
        obtain ⟨z1, z2, z3⟩ := hd'
        refine hin d ⟨z1, z2, ?_⟩
        rcases z3 with z3 | ⟨z3, z4⟩
        · exact Or.inl z3
        · refine Or.inr ⟨z3, ?_⟩
          rcases Nat.lt_or_ge (d % w) x with y' | y'
          · exact y'
          · exfalso
            refine e ?_
            have := Nat.div_add_mod d w
            rw [z3, Nat.mul_comm] at this
            omega
    · dsimp only []
      rw [tw_up_s]
      by_cases e : j = 8 + (y * w + x)
      · exfalso
        refine hj ⟨_, e, hd, ?_, Or.inr ⟨d1, by rw [d2]; omega⟩⟩
        unfold pu_inA
        rw [d1, d2]
        exact decide_eq_true ⟨by omega, by omega, by omega, by omega⟩
      · rw [pu_upd_n e]
        refine hout j (fun z => hj ?_)
        obtain ⟨d, z1, z2, z3, z4⟩ := z
        exact ⟨d, z1, z2, z3, by omega⟩
    · show 30 - (Int32.ofNat (x + 1)).toNatClampNeg < 30 - (Int32.ofNat x).toNatClampNeg
      rw [pu_n (by omega), pu_n (by omega)]
      omega
end RST
