/-! the class: water, bends, marks, the team -/
section CST
variable {σ σ0 : tw_Sg} {B : Nat → Nat} {L p n w h : Nat} {E : Option (Int32 × Nat)} {A : Nat → Int32} {Q : tw_Sg → Prop}
def pu_aW (A : Nat → Int32) (w h x0 y0 x1 y1 : Nat) : Nat → Int32 := fun j => if 8 ≤ j ∧ j < 8 + w * h ∧ pu_inA w x0 y0 x1 y1 (j - 8) = true then 1 else A j
def pu_onA (A : Nat → Int32) (w x0 y0 x1 y1 : Nat) : Prop := (∃ m, m < 8 ∧ pu_mA A w x0 y0 x1 y1 m = true) ∨ pu_oA w x0 y0 x1 y1 (pu_tm A) = true
def pu_qW (B : Nat → Nat) (L w h : Nat) (A : Nat → Int32) (q : Nat) : Nat → Int32 := pu_aW A w h (pu_num B L q) (pu_num B L (pu_nk B L 1 q)) (pu_num B L (pu_nk B L 2 q)) (pu_num B L (pu_nk B L 3 q))
noncomputable def pu_eW2 (B : Nat → Nat) (L w h : Nat) (A : Nat → Int32) (q : Nat) : Option (Int32 × Nat) := pu_fs (pu_eA B L w h none q) (¬ pu_onA A w (pu_num B L q) (pu_num B L (pu_nk B L 1 q)) (pu_num B L (pu_nk B L 2 q)) (pu_num B L (pu_nk B L 3 q))) (-7) q
noncomputable def pu_eW (B : Nat → Nat) (L w h : Nat) (A : Nat → Int32) (q : Nat) : Option (Int32 × Nat) := pu_fs (pu_fs (pu_eW2 B L w h A q) (pu_semi B L (pu_nk B L 4 q) = true) (-2) (pu_nk B L 4 q)) (∃ c, c < w * h ∧ pu_land (pu_qW B L w h A q) c = true) (-7) (pu_nk B L 4 q)
theorem pu_aW_out {x0 y0 x1 y1 j : Nat} (hw : w ≤ 20) (hh : h ≤ 20) (hj : j < 8 ∨ 408 ≤ j) : pu_aW A w h x0 y0 x1 y1 j = A j := by
  have := pu_wh hw hh
  exact if_neg (fun z => by omega)
theorem pu_aW_in {x0 y0 x1 y1 c : Nat} (hc : c < w * h) : pu_land (pu_aW A w h x0 y0 x1 y1) c = (!pu_inA w x0 y0 x1 y1 c && pu_land A c) := by
  unfold pu_land pu_aW
  rw [show 8 + c - 8 = c from by omega]
  by_cases e : pu_inA w x0 y0 x1 y1 c = true
  · rw [if_pos ⟨by omega, by omega, e⟩, e]; rfl
  · rw [if_neg (fun z => e z.2.2), Bool.eq_false_iff.mpr e]; rfl
theorem pu_aW_eqm {x0 y0 x1 y1 : Nat} (hw : w ≤ 20) (hh : h ≤ 20) : pu_eqm A (pu_aW A w h x0 y0 x1 y1) := fun m _ _ => pu_aW_out hw hh (by omega)
theorem pu_aW_AW {x0 y0 x1 y1 : Nat} (W : pu_AW A w h) (hL : ∃ c, c < w * h ∧ pu_land (pu_aW A w h x0 y0 x1 y1) c = true) : pu_AW (pu_aW A w h x0 y0 x1 y1) w h := by
  obtain ⟨w1, w2, h1, h2⟩ := pu_AW_b W
  refine pu_AW_cong W (fun j hj => pu_aW_out w2 h2 (by omega)) (fun j hj => pu_aW_out w2 h2 (by omega)) (fun c hc => ?_) (pu_aW_eqm w2 h2) (fun m hm => ?_) ?_ hL
  · unfold pu_aW
    by_cases z : 8 ≤ 8 + c ∧ 8 + c < 8 + w * h ∧ pu_inA w x0 y0 x1 y1 (8 + c - 8) = true
    · rw [if_pos z]; exact Or.inr rfl
    · rw [if_neg z]; exact W.2.2.2.1.1 c hc
  · rw [pu_aW_out w2 h2 (by omega)]
    exact (W.2.2.2.1.2.2.1 m hm).imp id (pu_is_cong (pu_aW_out w2 h2 (by omega)))
  · rw [pu_aW_out w2 h2 (by omega)]
    exact W.2.2.2.2.1.imp id (pu_is_cong (pu_aW_out w2 h2 (by omega)))
theorem pu_sum0 {g : Nat → Bool} : ∀ m, pu_sum g m ≤ m ∧ (pu_sum g m = 0 ↔ ¬ ∃ c, c < m ∧ g c = true)
  | 0 => ⟨Nat.le_refl _, ⟨fun _ z => by obtain ⟨c, z1, -⟩ := z; omega, fun _ => rfl⟩⟩
  | m + 1 => by
    obtain ⟨i1, i2⟩ := pu_sum0 (g := g) m
    by_cases e : g m = true
    · have : pu_sum g (m + 1) = pu_sum g m + 1 := by rw [pu_sum_S, if_pos e]
      exact ⟨by omega, ⟨fun z => by omega, fun z => absurd ⟨m, by omega, e⟩ z⟩⟩
    · have : pu_sum g (m + 1) = pu_sum g m := by
        show pu_sum g m + (if g m = true then 1 else 0) = _
        rw [if_neg e]; rfl
      refine ⟨by omega, ?_⟩
      rw [this, i2]
      refine ⟨fun z y => ?_, fun z y => ?_⟩
      · obtain ⟨c, y1, y2⟩ := y
        refine z ⟨c, ?_, y2⟩
        rcases Nat.lt_or_ge c m with t | t
        · exact t
        · have : c = m := by omega
          subst this
          exact absurd y2 e
      · obtain ⟨c, y1, y2⟩ := y
        exact z ⟨c, by omega, y2⟩
theorem pu_l405 : tw_ln (404 + 1) = 22 := by decide +kernel
theorem pu_k404 : tw_kd 404 = 0 := by decide +kernel
theorem pu_scWater (H : pu_SC B L w h σ0 (pu_dC A w h) none p σ) (W : pu_AW A w h) (hn : 2000 < n) : pu_wp (tw_P_X6_readWater n σ) (pu_SC B L w h σ0 (pu_dC (pu_qW B L w h A (pu_nx B L p)) w h) (pu_eW B L w h A (pu_nx B L p)) (pu_nk B L 5 (pu_nx B L p))) := by
  obtain ⟨w1, w2, h1, h2⟩ := pu_AW_b W
  unfold tw_P_X6_readWater
  refine pu_bd (pu_scA H hn) (fun r1 hr => pu_lt ?_)
  obtain ⟨H1, -⟩ := hr
  rw [(pu_SC_p H1 rfl).1]
  generalize pu_nx B L p = q at H1 ⊢
  refine pu_bd (pu_scArea H1 w1 w2 h1 h2 hn) (fun r3 hr => ?_)
  obtain ⟨⟨x0, y0, x1, y1, hq, e9, e10, hv⟩, H3⟩ := hr
  rw [e9, e10]
  have hst : pu_wp (tw_P_X2_standsOnMark n 403 (Int32.ofNat (pu_spot x0 y0)) (Int32.ofNat (pu_spot x1 y1)) r3) (fun r => pu_eA B L w h none q = none → (r = 0 ↔ ∀ m, m < 8 → pu_mA A w x0 y0 x1 y1 m = false)) := by
    by_cases z : pu_eA B L w h none q = none
    · exact pu_cons (pu_stands w1 w2 h2 hq (fun m hm => (H3.2.2.1 z).1.2.2.2.1 m hm) (fun m c hm e => (pu_AW_mk W hm e).1) hn) (fun r hr _ => hr)
    · exact pu_cons (pu_standsAny hn) (fun r _ y => absurd y z)
  refine pu_bd hst (fun r4 h4 => ?_)
  have hE2 : pu_eA B L w h none q = none → (pu_onA A w x0 y0 x1 y1 ↔ pu_onA A w (pu_num B L q) (pu_num B L (pu_nk B L 1 q)) (pu_num B L (pu_nk B L 2 q)) (pu_num B L (pu_nk B L 3 q))) := fun z => by
    obtain ⟨v1, v2, v3, v4⟩ := hv z
    rw [v1, v2, v3, v4]
  refine pu_jn (R := fun t => pu_SC B L w h σ0 (pu_dC A w h) (pu_eW2 B L w h A q) (pu_nk B L 4 q) t ∧ t 400 9 = Int32.ofNat (pu_spot x0 y0) ∧ t 400 10 = Int32.ofNat (pu_spot x1 y1)) (fun t ht => ?_) (fun f hf => ?_)
  · obtain ⟨H4, t9, t10⟩ := ht
    rw [t9, t10]
    refine pu_bd (pu_flood w2 h2 hq hn) (fun r7 h7 => pu_lt ?_)
    obtain ⟨f1, f2⟩ := h7
    have H5 : pu_SC B L w h σ0 (pu_dC (pu_qW B L w h A q) w h) (pu_eW2 B L w h A q) (pu_nk B L 4 q) r7 := by
      refine pu_SC_set H4 ⟨by rw [f2 403 (by decide)], by rw [f2 403 (by decide)]⟩ (f2 400 (by decide)) (fun k hk => f2 k (by omega)) (fun z => ?_)
      have D := H4.2.2.1 z
      obtain ⟨v1, v2, v3, v4⟩ := hv (pu_fs0.mp z).1
      have hQ : pu_qW B L w h A q = pu_aW A w h x0 y0 x1 y1 := by unfold pu_qW; rw [v1, v2, v3, v4]
      rw [hQ]
      have hb : ∀ j i, j ≠ 2 → pu_bk r7 403 j i = pu_bk t 403 j i := fun j i hj => by
        show r7 (403 + j) i = t (403 + j) i
        rw [f2 (403 + j) (by omega)]
      refine pu_dC_cong W (fun j hj => pu_aW_out w2 h2 (by omega)) (fun j hj => pu_aW_out w2 h2 (by omega)) (pu_aW_eqm w2 h2) D (fun j i z1 _ _ => hb j i z1) ?_ ⟨fun c hc => ?_, fun s hs hne => ?_⟩ (fun m hm => ?_)
      · rw [hb 0 10 (by decide)]
        refine D.1.1.2.2.2.2.2.2.1.trans ?_
        unfold pu_tm
        rw [pu_aW_out w2 h2 (by omega), pu_v_cong (pu_aW_out w2 h2 (by omega))]
      · have hs := pu_sp_rng w2 h2 hc
        rw [pu_aW_in hc, ← D.1.2.1.1 c hc, ← pu_in_sp w1 w2 hq]
        exact f1 _ (by omega)
      · refine (f1 s hs).trans ?_
        rw [show pu_bt t 405 s = false from D.1.2.1.2 s hs hne, Bool.and_false]
      · rw [hb 6 m (by decide)]
        refine (D.1.2.2.2.1 m hm).trans ?_
        unfold pu_mk
        rw [pu_aW_out w2 h2 (by omega), pu_v_cong (pu_aW_out w2 h2 (by omega))]
    refine pu_bd (pu_scS H5 hn) (fun r9 hr => ?_)
    obtain ⟨H6, -⟩ := hr
    have hc : pu_wp (tw_P_X0_count n 404 r9) (fun r => pu_fs (pu_eW2 B L w h A q) (pu_semi B L (pu_nk B L 4 q) = true) (-2) (pu_nk B L 4 q) = none → (r = 0 ↔ ¬ ∃ c, c < w * h ∧ pu_land (pu_qW B L w h A q) c = true)) := by
      by_cases z : pu_fs (pu_eW2 B L w h A q) (pu_semi B L (pu_nk B L 4 q) = true) (-2) (pu_nk B L 4 q) = none
      · refine ⟨_, pu_ccount pu_k404 w2 h2 (H6.2.2.1 z).1.2.1 (by omega), fun _ => ?_⟩
        obtain ⟨s1, s2⟩ := pu_sum0 (g := pu_land (pu_qW B L w h A q)) (w * h)
        have := pu_wh w2 h2
        rw [← s2]
        exact pu_eq (b := 0) (by omega) (by decide)
      · exact pu_cons (pu_countAny pu_l405 hn) (fun r _ y => absurd y z)
    refine pu_bd hc (fun r10 h10 => pu_jn0 (pu_if (fun c => ?_) (fun c => ?_)))
    · refine pu_some ?_
      have e : pu_eW B L w h A q = pu_fs (pu_eW2 B L w h A q) (pu_semi B L (pu_nk B L 4 q) = true) (-2) (pu_nk B L 4 q) := by
        unfold pu_eW
        generalize pu_fs (pu_eW2 B L w h A q) (pu_semi B L (pu_nk B L 4 q) = true) (-2) (pu_nk B L 4 q) = E3 at h10
        cases E3 with
        | some e => rfl
        | none => exact pu_fs_y (Classical.byContradiction (fun y => c ((h10 rfl).mpr y)))
      rw [e]
      exact H6
    · have c := Classical.not_not.mp c
      refine pu_bd (pu_scF (o := pu_nk B L 4 q) H6 (by decide) (fun z => (pu_SC_p H5 (pu_fs0.mp z).1).1)) (fun t ht => pu_some ?_)
      have e : pu_eW B L w h A q = pu_or (pu_fs (pu_eW2 B L w h A q) (pu_semi B L (pu_nk B L 4 q) = true) (-2) (pu_nk B L 4 q)) (-7) (pu_nk B L 4 q) := by
        unfold pu_eW
        generalize pu_fs (pu_eW2 B L w h A q) (pu_semi B L (pu_nk B L 4 q) = true) (-2) (pu_nk B L 4 q) = E3 at h10
        cases E3 with
        | some e => rfl
        | none => exact pu_fs_n ((h10 rfl).mp c)
      rw [e]
      exact ht.1
  refine pu_jn (R := fun _ => pu_eA B L w h none q = none → pu_onA A w x0 y0 x1 y1) (fun u hu => ?_) (fun g hg => ?_)
  · have hu : pu_eA B L w h none q = none → pu_onA A w x0 y0 x1 y1 := hu
    refine pu_bd (pu_scF (o := q) H3 (by decide) (fun _ => rfl)) (fun t ht => hf _ ⟨?_, (ht.2.2 9 (by decide)).trans e9, (ht.2.2 10 (by decide)).trans e10⟩)
    have e : pu_eW2 B L w h A q = pu_or (pu_eA B L w h none q) (-7) q := by
      unfold pu_eW2
      generalize pu_eA B L w h none q = E1 at hu hE2
      cases E1 with
      | some e => rfl
      | none => exact pu_fs_n (fun z => z ((hE2 rfl).mp (hu rfl)))
    rw [e]
    exact ht.1
  refine pu_if (fun c => ?_) (fun c => ?_)
  · exact hg () (fun z => Or.inl (Classical.byContradiction (fun y => c ((h4 z).mpr (fun m hm => Bool.eq_false_iff.mpr (fun x => y ⟨m, hm, x⟩))))))
  have c := Classical.not_not.mp c
  have hb : ∃ b : Bool, tw_P_X11_isBetween (Int32.ofNat (pu_spot x0 y0)) (Int32.ofNat (pu_spot x1 y1)) (r3 403 10) r3 = some (if b then 1 else 0) ∧ (pu_eA B L w h none q = none → b = pu_oA w x0 y0 x1 y1 (pu_tm A)) := by
    by_cases z : pu_eA B L w h none q = none
    · refine ⟨pu_oA w x0 y0 x1 y1 (pu_tm A), ?_, fun _ => rfl⟩
      rw [show r3 403 10 = pu_eS w (pu_tm A) from (H3.2.2.1 z).1.1.2.2.2.2.2.2.1]
      exact pu_btw w1 w2 h2 hq (fun c hc => (pu_AW_tm W hc).1)
    · obtain ⟨b, hb⟩ := pu_isBetween_any (σ := r3) (a := Int32.ofNat (pu_spot x0 y0)) (b := Int32.ofNat (pu_spot x1 y1)) (s := r3 403 10)
      exact ⟨b, hb, fun y => absurd y z⟩
  obtain ⟨b, hb, hbz⟩ := hb
  refine pu_bde hb (pu_if (fun c2 => ?_) (fun c2 => ?_))
  · refine hf _ ⟨?_, e9, e10⟩
    have e : pu_eW2 B L w h A q = pu_eA B L w h none q := by
      unfold pu_eW2
      generalize pu_eA B L w h none q = E1 at hbz hE2 h4
      cases E1 with
      | some e => rfl
      | none =>
        refine pu_fs_y (fun z => ?_)
        rcases (hE2 rfl).mpr z with ⟨m, m1, m2⟩ | z2
        · rw [(h4 rfl).mp c m m1] at m2; cases m2
        · rw [hbz rfl, z2] at c2; exact pu_10 c2
    rw [e]
    exact H3
  · refine hg () (fun z => Or.inr ?_)
    rw [← hbz z]
    cases b with
    | true => rfl
    | false => exact absurd rfl c2
/-- a cell of land -/
noncomputable def pu_eL (B : Nat → Nat) (L w h : Nat) (g : Nat → Bool) (E : Option (Int32 × Nat)) (p : Nat) : Option (Int32 × Nat) := pu_fs (pu_eN B L (pu_eN B L E (0 : Nat) (w - 1 : Nat) p) (0 : Nat) (h - 1 : Nat) (pu_nk B L 1 p)) (g (pu_num B L (pu_nk B L 1 p) * w + pu_num B L p) = true) (-7) p
theorem pu_eL0 {g : Nat → Bool} (w1 : 0 < w) (h1 : 0 < h) (h0 : pu_eL B L w h g E p = none) : E = none ∧ pu_num B L p < w ∧ pu_num B L (pu_nk B L 1 p) < h ∧ pu_num B L (pu_nk B L 1 p) * w + pu_num B L p < w * h ∧ g (pu_num B L (pu_nk B L 1 p) * w + pu_num B L p) = true := by
  obtain ⟨a1, a2⟩ := pu_fs0.mp h0
  obtain ⟨a3, -, -, b2⟩ := pu_fs0.mp a1
  obtain ⟨a4, -, -, c2⟩ := pu_fs0.mp a3
  have x1 : pu_num B L p < w := by omega
  have y1 : pu_num B L (pu_nk B L 1 p) < h := by omega
  exact ⟨a4, x1, y1, pu_cell_lt y1 x1, a2⟩
theorem pu_spot_sp {x y : Nat} (hx : x < w) : pu_spot x y = pu_sp w (y * w + x) := by
  obtain ⟨d1, d2⟩ := pu_dm (w := w) (q := y) (r := x) hx
  unfold pu_spot pu_sp
  rw [d1, d2]
theorem pu_scLand {g : Nat → Bool} (H : pu_SC B L w h σ0 Q E p σ) (w1 : 0 < w) (w2 : w ≤ 20) (h1 : 0 < h) (h2 : h ≤ 20) (hg : E = none → pu_set σ 405 w (w * h) g) (hn : 2000 < n) : pu_wp (tw_P_X6_takeLandSpot n σ) (fun r => (pu_eL B L w h g E p = none → r.1 = Int32.ofNat (pu_sp w (pu_num B L (pu_nk B L 1 p) * w + pu_num B L p))) ∧ pu_SC B L w h σ0 Q (pu_eL B L w h g E p) (pu_nk B L 2 p) r.2 ∧ pu_fA σ r.2) := by
  unfold tw_P_X6_takeLandSpot
  have eS : ∀ m : Nat, 0 < m → Int32.ofNat m - (1 : Int32) = Int32.ofNat (m - 1) := fun m hm => pu_sub (b := 1) hm
  refine pu_lt ?_
  refine pu_bd (pu_scN (a := 0) (b := w - 1) (lo' := 0) H rfl (by rw [H.2.1.1]; exact eS w w1) (Nat.zero_le _) (by omega) (fun _ => rfl) hn) (fun r1 hr => pu_lt ?_)
  obtain ⟨⟨x0, e0, -, g0, i0⟩, H1, fa1⟩ := hr
  refine pu_bd (pu_scN (a := 0) (b := h - 1) (lo' := 0) H1 rfl (by rw [H1.2.1.2]; exact eS h h1) (Nat.zero_le _) (by omega) (fun _ => rfl) hn) (fun r2 hr => pu_lt ?_)
  obtain ⟨⟨y0, e1, -, g1, i1⟩, H2, fa2⟩ := hr
  have fa := pu_fA_trans fa1 fa2
  rw [e0, e1]
  have hs : (y0 + 1) * 32 + x0 + 1 < 704 := by omega
  refine pu_bde pu_spotAt (pu_lt (pu_bde (pu_has pu_k404 hs) (pu_jn (R := fun t => pu_SC B L w h σ0 Q (pu_eL B L w h g E p) (pu_nk B L 2 p) t ∧ pu_fA σ t) (fun t ht => pu_some ⟨fun z => ?_, ht.1, ht.2⟩) (fun f hf => ?_))))
  · obtain ⟨z1, z2, z3, -⟩ := pu_eL0 w1 h1 z
    have a1 := (pu_fs0.mp z).1
    rw [← i0 (pu_fs0.mp a1).1] at z2 ⊢
    rw [show pu_num B L (pu_nk B L 1 p) = y0 from (i1 a1).symm]
    show Int32.ofNat (pu_spot x0 y0) = _
    rw [pu_spot_sp (w := w) (by omega)]
  have hbt : pu_eN B L (pu_eN B L E (0 : Nat) (w - 1 : Nat) p) (0 : Nat) (h - 1 : Nat) (pu_nk B L 1 p) = none → pu_bt r2.2 405 ((y0 + 1) * 32 + x0 + 1) = g (pu_num B L (pu_nk B L 1 p) * w + pu_num B L p) := fun z => by
    have z1 := (pu_fs0.mp z).1
    have e3 : x0 = pu_num B L p := i0 z1
    have e4 : y0 = pu_num B L (pu_nk B L 1 p) := i1 z
    rw [← e3, ← e4, ← (pu_set_cong (hg (pu_fs0.mp z1).1) (fa.1 405 (by decide))).1 _ (pu_cell_lt (show y0 < h by omega) (show x0 < w by omega))]
    rw [← pu_spot_sp (show x0 < w by omega)]
    rfl
  refine pu_if (fun c => ?_) (fun c => ?_)
  · refine hf _ ⟨?_, fa⟩
    have e : pu_eL B L w h g E p = pu_eN B L (pu_eN B L E (0 : Nat) (w - 1 : Nat) p) (0 : Nat) (h - 1 : Nat) (pu_nk B L 1 p) := by
      unfold pu_eL
      generalize pu_eN B L (pu_eN B L E (0 : Nat) (w - 1 : Nat) p) (0 : Nat) (h - 1 : Nat) (pu_nk B L 1 p) = E2 at hbt
      cases E2 with
      | some e => rfl
      | none =>
        refine pu_fs_y (Classical.byContradiction (fun y => c ?_))
        rw [← hbt rfl] at y
        exact if_neg y
    rw [e]
    exact H2
  · refine pu_bd (pu_scF (o := p) H2 (by decide) (fun z => (pu_SC_p H (pu_fs0.mp (pu_fs0.mp z).1).1).1)) (fun t ht => hf _ ⟨?_, pu_fA_trans fa ht.2⟩)
    have e : pu_eL B L w h g E p = pu_or (pu_eN B L (pu_eN B L E (0 : Nat) (w - 1 : Nat) p) (0 : Nat) (h - 1 : Nat) (pu_nk B L 1 p)) (-7) p := by
      unfold pu_eL
      generalize pu_eN B L (pu_eN B L E (0 : Nat) (w - 1 : Nat) p) (0 : Nat) (h - 1 : Nat) (pu_nk B L 1 p) = E2 at hbt
      cases E2 with
      | some e => rfl
      | none =>
        refine pu_fs_n (fun y => ?_)
        rw [← hbt rfl] at y
        refine c (fun z => ?_)
        rw [show pu_bt r2.2 (404 + 1) ((y0 + 1) * 32 + x0 + 1) = true from y] at z
        exact pu_10 z
    rw [e]
    exact ht.1
end CST
/-! the class: a mark, the team -/
section CST2
variable {σ σ0 : tw_Sg} {B : Nat → Nat} {L p n w h : Nat} {E : Option (Int32 × Nat)} {A : Nat → Int32} {Q : tw_Sg → Prop}
theorem pu_scM (H : pu_SC B L w h σ0 Q E p σ) : pu_wp (tw_P_X6_markAhead σ) (fun r => (pu_fs E (pu_isM B L p) (-2) p = none → r.1 = Int32.ofNat (B p - 97)) ∧ pu_SC B L w h σ0 Q (pu_fs E (pu_isM B L p) (-2) p) p r.2 ∧ pu_fA σ r.2) := by
  obtain ⟨s, h1, h2⟩ := H.1
  refine pu_cons (pu_cmarkA h1) (fun r hr => ?_)
  obtain ⟨r1, r2, r3⟩ := hr
  by_cases c : pu_isM B L s
  · obtain ⟨g1, g2⟩ := r1 c
    refine ⟨fun z => by rw [g1, h2 (pu_fs0.mp z).1], pu_SC_mk H ⟨s, ?_, fun z => h2 (pu_fs0.mp z).1⟩ (fun z => (pu_fs0.mp z).1) r3, r3⟩
    cases E with
    | some e => exact g2
    | none => have := h2 rfl; subst this; rw [pu_fs_y c]; exact g2
  · obtain ⟨g1, g2⟩ := r2 c
    refine ⟨fun z => ?_, pu_SC_mk H ⟨s, ?_, fun z => h2 (pu_fs0.mp z).1⟩ (fun z => (pu_fs0.mp z).1) r3, r3⟩
    · obtain ⟨z1, z2⟩ := pu_fs0.mp z
      rw [← h2 z1] at z2
      exact absurd z2 c
    · cases E with
      | some e => exact g2
      | none => have := h2 rfl; subst this; rw [pu_fs_n c]; exact g2
theorem pu_isM_lt (hB : ∀ i, i < L → B i < 256) (h : pu_isM B L p) : B p - 97 < 8 ∧ 97 ≤ B p ∧ p < L := by
  obtain ⟨h1, h2, h3⟩ := h
  have hp : p < L := pu_tk0 (B := B) (by omega)
  unfold pu_tk at h1
  rw [if_pos hp] at h1
  have := pu_let.mp h1
  exact ⟨by omega, this.1, hp⟩
theorem pu_SC_B (H : pu_SC B L w h σ0 Q E p σ) : ∀ i, i < L → B i < 256 := fun i hi => by
  obtain ⟨s, h1, -⟩ := H.1
  exact (h1.1.2.2 i hi).2
/-- the cell told by the two numbers at q -/
def pu_cN (B : Nat → Nat) (L w q : Nat) : Nat := pu_num B L (pu_nk B L 1 q) * w + pu_num B L q
noncomputable def pu_eM2 (B : Nat → Nat) (L w h : Nat) (A : Nat → Int32) (q : Nat) : Option (Int32 × Nat) := pu_eL B L w h (pu_land A) (pu_fs (pu_fs none (pu_isM B L q) (-2) q) (A (808 + (B q - 97)) = -1) (-4) q) (pu_nk B L 1 q)
noncomputable def pu_eM (B : Nat → Nat) (L w h : Nat) (A : Nat → Int32) (q : Nat) : Option (Int32 × Nat) := pu_fs (pu_eM2 B L w h A q) (pu_semi B L (pu_nk B L 3 q) = true) (-2) (pu_nk B L 3 q)
def pu_qM (B : Nat → Nat) (L w : Nat) (A : Nat → Int32) (q : Nat) : Nat → Int32 := upd A (808 + (B q - 97)) (Int32.ofNat (pu_cN B L w (pu_nk B L 1 q)))
theorem pu_eSz {o : Option Nat} (ho : ∀ c, o = some c → c < w * h) (w2 : w ≤ 20) (h2 : h ≤ 20) : pu_eS w o = 0 ↔ o = none := by
  cases o with
  | none => exact ⟨fun _ => rfl, fun _ => rfl⟩
  | some c =>
    have := pu_sp_rng w2 h2 (ho c rfl)
    refine ⟨fun z => ?_, fun z => by cases z⟩
    have := (pu_eq (a := pu_sp w c) (b := 0) (by omega) (by decide)).mp z
    omega
theorem pu_mk0 {m : Nat} : pu_mk A m = none ↔ A (808 + m) = -1 := by
  unfold pu_mk
  by_cases z : A (808 + m) = -1
  · rw [if_pos z]; exact ⟨fun _ => z, fun _ => rfl⟩
  · rw [if_neg z]; exact ⟨fun y => (by cases y), fun y => absurd y z⟩
theorem pu_tm0 : pu_tm A = none ↔ A 4 = -1 := by
  unfold pu_tm
  by_cases z : A 4 = -1
  · rw [if_pos z]; exact ⟨fun _ => z, fun _ => rfl⟩
  · rw [if_neg z]; exact ⟨fun y => (by cases y), fun y => absurd y z⟩
theorem pu_mark_AW {m c : Nat} (W : pu_AW A w h) (hm : m < 8) (hA : A (808 + m) = -1) (hc : c < w * h) : pu_eqm A (upd A (808 + m) (Int32.ofNat c)) ∧ pu_AW (upd A (808 + m) (Int32.ofNat c)) w h := by
  obtain ⟨w1, w2, h1, h2⟩ := pu_AW_b W
  have hwh := pu_wh w2 h2
  have em : pu_eqm A (upd A (808 + m) (Int32.ofNat c)) := fun k hk z => pu_upd_n (fun e => z (by rw [e]; exact hA))
  refine ⟨em, pu_AW_cong W (fun j hj => pu_upd_n (by omega)) (fun j hj => pu_upd_n (by omega)) (fun c hc => ?_) em (fun k hk => ?_) ?_ ?_⟩
  · rw [pu_upd_n (by omega)]; exact W.2.2.2.1.1 c hc
  · by_cases e : k = m
    · subst e
      exact Or.inr (pu_is_of pu_upd_s hc (by omega))
    · rw [pu_upd_n (by omega)]
      exact (W.2.2.2.1.2.2.1 k hk).imp id (pu_is_cong (pu_upd_n (by omega)))
  · rw [pu_upd_n (by omega)]
    exact W.2.2.2.2.1.imp id (pu_is_cong (pu_upd_n (by omega)))
  · obtain ⟨d, d1, d2⟩ := W.2.2.2.2.2.2.2
    refine ⟨d, d1, ?_⟩
    unfold pu_land
    rw [pu_upd_n (by omega)]
    exact d2
theorem pu_scMark (H : pu_SC B L w h σ0 (pu_dC A w h) none p σ) (W : pu_AW A w h) (hn : 2000 < n) : pu_wp (tw_P_X6_readMark n σ) (pu_SC B L w h σ0 (pu_dC (pu_qM B L w A (pu_nx B L p)) w h) (pu_eM B L w h A (pu_nx B L p)) (pu_nk B L 4 (pu_nx B L p))) := by
  obtain ⟨w1, w2, h1, h2⟩ := pu_AW_b W
  have hwh := pu_wh w2 h2
  have hB := pu_SC_B H
  unfold tw_P_X6_readMark
  refine pu_bd (pu_scA H hn) (fun r1 hr => ?_)
  obtain ⟨H1, -⟩ := hr
  generalize pu_nx B L p = q at H1 ⊢
  refine pu_bd (pu_scM H1) (fun r2 hr => pu_lt ?_)
  obtain ⟨e1, H2, -⟩ := hr
  have hget : ∃ v, tw_P_X7_get 408 r2.1 r2.2 = some v ∧ (pu_fs none (pu_isM B L q) (-2) q = none → (v = 0 ↔ A (808 + (B q - 97)) = -1)) := by
    by_cases z : pu_fs none (pu_isM B L q) (-2) q = none
    · have hm := pu_isM_lt hB (pu_fs0.mp z).2
      rw [e1 z]
      refine ⟨_, pu_get (th := 408) pu_l409 (by decide) hm.1, fun _ => ?_⟩
      rw [show r2.2 (408 + 1) (B q - 97) = pu_eS w (pu_mk A (B q - 97)) from (H2.2.2.1 z).1.2.2.2.1 _ hm.1, pu_eSz (fun c hc => (pu_AW_mk W hm.1 hc).1) w2 h2]
      exact pu_mk0
    · obtain ⟨v, hv⟩ := pu_get_any (σ := r2.2) (th := 408) (x := r2.1) (by rw [pu_l409]; decide)
      exact ⟨v, hv, fun y => absurd y z⟩
  obtain ⟨v, hv, hv0⟩ := hget
  refine pu_bde hv (pu_jn (R := fun t => pu_SC B L w h σ0 (pu_dC A w h) (pu_fs (pu_fs none (pu_isM B L q) (-2) q) (A (808 + (B q - 97)) = -1) (-4) q) q t) (fun t ht => ?_) (fun f hf => ?_))
  rotate_left
  · refine pu_if (fun c => hf _ ?_) (fun c => ?_)
    · have e : pu_fs (pu_fs none (pu_isM B L q) (-2) q) (A (808 + (B q - 97)) = -1) (-4) q = pu_fs none (pu_isM B L q) (-2) q := by
        generalize pu_fs none (pu_isM B L q) (-2) q = E1 at hv0
        cases E1 with
        | some e => rfl
        | none => exact pu_fs_y ((hv0 rfl).mp c)
      rw [e]; exact H2
    · refine pu_bd (pu_scF (o := q) H2 (by decide) (fun z => (pu_SC_p H2 z).1)) (fun t ht => hf _ ?_)
      have e : pu_fs (pu_fs none (pu_isM B L q) (-2) q) (A (808 + (B q - 97)) = -1) (-4) q = pu_or (pu_fs none (pu_isM B L q) (-2) q) (-4) q := by
        generalize pu_fs none (pu_isM B L q) (-2) q = E1 at hv0
        cases E1 with
        | some e => rfl
        | none => exact pu_fs_n (fun z => c ((hv0 rfl).mpr z))
      rw [e]; exact ht.1
  refine pu_bd (pu_scA ht hn) (fun r7 hr => ?_)
  obtain ⟨H3, -⟩ := hr
  refine pu_bd (pu_scLand (g := pu_land A) H3 w1 w2 h1 h2 (fun z => (H3.2.2.1 z).1.2.1) hn) (fun r8 hr => ?_)
  obtain ⟨e8, H4, -⟩ := hr
  have hput : ∃ t, tw_P_X7_put 408 r2.1 r8.1 r8.2 = some t ∧ pu_SC B L w h σ0 (pu_dC (pu_qM B L w A q) w h) (pu_eM2 B L w h A q) (pu_nk B L 3 q) t := by
    by_cases z : pu_eM2 B L w h A q = none
    · obtain ⟨z0, z1, z2, z3, z4⟩ := pu_eL0 w1 h1 z
      obtain ⟨z5, z6⟩ := pu_fs0.mp z0
      have hm := pu_isM_lt hB (pu_fs0.mp z5).2
      rw [e1 z5, e8 z]
      refine ⟨_, pu_put (th := 408) pu_l409 (by decide) hm.1, ?_⟩
      obtain ⟨em, -⟩ := pu_mark_AW W hm.1 z6 z3
      refine pu_SC_set H4 ⟨by rw [tw_up_n (show 403 ≠ 408 + 1 by decide)], by rw [tw_up_n (show 403 ≠ 408 + 1 by decide)]⟩ (tw_up_n (show 400 ≠ 408 + 1 by decide)) (fun k hk => tw_up_n (by omega)) (fun y => ?_)
      have D := H4.2.2.1 y
      have hb : ∀ j i, j ≠ 6 → pu_bk (tw_up r8.2 (408 + 1) (B q - 97) (Int32.ofNat (pu_sp w (pu_num B L (pu_nk B L 1 (pu_nx B L q)) * w + pu_num B L (pu_nx B L q))))) 403 j i = pu_bk r8.2 403 j i := fun j i hj => by
        unfold pu_bk
        rw [tw_up_n (show 403 + j ≠ 408 + 1 by omega)]
      refine pu_dC_cong W (fun j hj => pu_upd_n (by omega)) (fun j hj => pu_upd_n (by omega)) em D (fun j i _ z1 _ => hb j i z1) ?_ (pu_set_ext (pu_set_cong D.1.2.1 (funext fun i => hb 2 i (by decide))) (fun c hc => ?_)) (fun m hm8 => ?_)
      · rw [hb 0 10 (by decide)]
        refine D.1.1.2.2.2.2.2.2.1.trans ?_
        have e4 : pu_qM B L w A q 4 = A 4 := pu_upd_n (by omega)
        unfold pu_tm
        rw [e4, pu_v_cong e4]
      · have e4 : pu_qM B L w A q (8 + c) = A (8 + c) := pu_upd_n (by omega)
        unfold pu_land
        rw [e4]
      · show tw_up r8.2 (408 + 1) _ _ (403 + 6) m = _
        rw [show 403 + 6 = 408 + 1 from rfl, tw_up_s]
        by_cases e : m = B q - 97
        · subst e
          rw [pu_upd_s]
          have e4 : pu_qM B L w A q (808 + (B q - 97)) = Int32.ofNat (pu_cN B L w (pu_nk B L 1 q)) := pu_upd_s
          have hc : pu_cN B L w (pu_nk B L 1 q) < w * h := z3
          unfold pu_mk
          rw [e4, if_neg (pu_nm1 (by omega)), pu_v_of e4 (by omega)]
          rfl
        · rw [pu_upd_n e]
          refine (D.1.2.2.2.1 m hm8).trans ?_
          have e4 : pu_qM B L w A q (808 + m) = A (808 + m) := pu_upd_n (by omega)
          unfold pu_mk
          rw [e4, pu_v_cong e4]
    · obtain ⟨t, ht1, ht2⟩ := pu_put_any (σ := r8.2) (th := 408) (x := r2.1) (v := r8.1) (by rw [pu_l409]; decide)
      refine ⟨t, ht1, pu_SC_set H4 ⟨by rw [ht2 403 (by decide)], by rw [ht2 403 (by decide)]⟩ (ht2 400 (by decide)) (fun k hk => ht2 k (by omega)) (fun y => absurd y z)⟩
  obtain ⟨t, ht1, H5⟩ := hput
  exact pu_bde ht1 (pu_bd (pu_scS H5 hn) (fun r hr => pu_some hr.1))
noncomputable def pu_eT2 (B : Nat → Nat) (L w h : Nat) (A : Nat → Int32) (p : Nat) : Option (Int32 × Nat) := pu_eL B L w h (pu_land A) (pu_fs none (A 4 = -1) (-2) p) (pu_nx B L p)
noncomputable def pu_eT (B : Nat → Nat) (L w h : Nat) (A : Nat → Int32) (p : Nat) : Option (Int32 × Nat) := pu_fs (pu_eT2 B L w h A p) (pu_semi B L (pu_nk B L 3 p) = true) (-2) (pu_nk B L 3 p)
def pu_qT (B : Nat → Nat) (L w : Nat) (A : Nat → Int32) (p : Nat) : Nat → Int32 := upd A 4 (Int32.ofNat (pu_cN B L w (pu_nx B L p)))
theorem pu_team_AW {c : Nat} (W : pu_AW A w h) (hc : c < w * h) : pu_eqm A (upd A 4 (Int32.ofNat c)) ∧ pu_AW (upd A 4 (Int32.ofNat c)) w h := by
  obtain ⟨w1, w2, h1, h2⟩ := pu_AW_b W
  have hwh := pu_wh w2 h2
  have em : pu_eqm A (upd A 4 (Int32.ofNat c)) := fun k hk z => pu_upd_n (by omega)
  refine ⟨em, pu_AW_cong W (fun j hj => pu_upd_n (by omega)) (fun j hj => pu_upd_n (by omega)) (fun c hc => ?_) em (fun k hk => ?_) (Or.inr (pu_is_of pu_upd_s hc (by omega))) ?_⟩
  · rw [pu_upd_n (by omega)]; exact W.2.2.2.1.1 c hc
  · rw [pu_upd_n (by omega)]
    exact (W.2.2.2.1.2.2.1 k hk).imp id (pu_is_cong (pu_upd_n (by omega)))
  · obtain ⟨d, d1, d2⟩ := W.2.2.2.2.2.2.2
    refine ⟨d, d1, ?_⟩
    unfold pu_land
    rw [pu_upd_n (by omega)]
    exact d2
theorem pu_scTeam (H : pu_SC B L w h σ0 (pu_dC A w h) none p σ) (W : pu_AW A w h) (hn : 2000 < n) : pu_wp (tw_P_X6_readTeam n σ) (pu_SC B L w h σ0 (pu_dC (pu_qT B L w A p) w h) (pu_eT B L w h A p) (pu_nk B L 4 p)) := by
  obtain ⟨w1, w2, h1, h2⟩ := pu_AW_b W
  have hwh := pu_wh w2 h2
  have h10 : σ 403 10 = 0 ↔ A 4 = -1 := by
    rw [show σ 403 10 = pu_eS w (pu_tm A) from (H.2.2.1 rfl).1.1.2.2.2.2.2.2.1, pu_eSz (fun c hc => (pu_AW_tm W hc).1) w2 h2]
    exact pu_tm0
  unfold tw_P_X6_readTeam
  refine pu_jn (R := fun t => pu_SC B L w h σ0 (pu_dC A w h) (pu_fs none (A 4 = -1) (-2) p) p t) (fun t ht => ?_) (fun f hf => ?_)
  rotate_left
  · refine pu_if (fun c => hf _ ?_) (fun c => ?_)
    · rw [pu_fs_y (h10.mp c)]; exact H
    · refine pu_bd (pu_scF (o := p) H (by decide) (fun z => (pu_SC_p H z).1)) (fun t ht => hf _ ?_)
      rw [pu_fs_nE (fun z => c (h10.mpr z))]
      exact ht.1
  refine pu_bd (pu_scA ht hn) (fun r3 hr => ?_)
  obtain ⟨H3, -⟩ := hr
  refine pu_bd (pu_scLand (g := pu_land A) H3 w1 w2 h1 h2 (fun z => (H3.2.2.1 z).1.2.1) hn) (fun r4 hr => ?_)
  obtain ⟨e4, H4, -⟩ := hr
  refine pu_ltG (P := fun t => pu_SC B L w h σ0 (pu_dC (pu_qT B L w A p) w h) (pu_eT2 B L w h A p) (pu_nk B L 3 p) t) ?_ (fun t ht => ?_)
  rotate_left
  · exact pu_bd (pu_scS ht hn) (fun r hr => pu_some hr.1)
  refine pu_SC_set H4 ⟨?_, ?_⟩ (tw_up_n (by decide)) (fun k hk => tw_up_n (by omega)) (fun y => ?_)
  · rw [tw_up_s, pu_upd_n (by decide)]
  · rw [tw_up_s, pu_upd_n (by decide)]
  obtain ⟨z0, z1, z2, z3, z4⟩ := pu_eL0 w1 h1 y
  rw [e4 y]
  have D := H4.2.2.1 y
  obtain ⟨em, -⟩ := pu_team_AW W z3
  have hb : ∀ j i, ¬ (j = 0 ∧ i = 10) → pu_bk (tw_up r4.2 403 10 (Int32.ofNat (pu_sp w (pu_num B L (pu_nk B L 1 (pu_nx B L p)) * w + pu_num B L (pu_nx B L p))))) 403 j i = pu_bk r4.2 403 j i := fun j i hj => by
    unfold pu_bk
    by_cases e : j = 0
    · subst e
      rw [show 403 + 0 = 403 from rfl, tw_up_s, pu_upd_n (by omega)]
    · rw [tw_up_n (show 403 + j ≠ 403 by omega)]
  refine pu_dC_cong W (fun j hj => pu_upd_n (by omega)) (fun j hj => pu_upd_n (by omega)) em D (fun j i _ _ z1 => hb j i z1) ?_ (pu_set_ext (pu_set_cong D.1.2.1 (funext fun i => hb 2 i (by omega))) (fun c hc => ?_)) (fun m hm8 => ?_)
  · show tw_up r4.2 403 10 _ (403 + 0) 10 = _
    rw [show 403 + 0 = 403 from rfl, tw_up_s, pu_upd_s]
    have e5 : pu_qT B L w A p 4 = Int32.ofNat (pu_cN B L w (pu_nx B L p)) := pu_upd_s
    have hc : pu_cN B L w (pu_nx B L p) < w * h := z3
    unfold pu_tm
    rw [e5, if_neg (pu_nm1 (by omega)), pu_v_of e5 (by omega)]
    rfl
  · have e5 : pu_qT B L w A p (8 + c) = A (8 + c) := pu_upd_n (by omega)
    unfold pu_land
    rw [e5]
  · rw [hb 6 m (by omega)]
    refine (D.1.2.2.2.1 m hm8).trans ?_
    have e5 : pu_qT B L w A p (808 + m) = A (808 + m) := pu_upd_n (by omega)
    unfold pu_mk
    rw [e5, pu_v_cong e5]
end CST2
