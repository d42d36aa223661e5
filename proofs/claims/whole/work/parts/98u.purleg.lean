/-! the reference: a bend, a bearing, a leg -/
section RBND
variable {σ σ0 : tw_Sg} {B : Nat → Nat} {L p n w h q : Nat} {E : Option (Int32 × Nat)} {A A' : Nat → Int32}
theorem pu_srBend (H : pu_SR B L σ0 A none (pu_nx B L p) σ) (W : pu_AW A w h) (hn : 2000 < n) : pu_wp (tw_P_X12_readBend n (Int32.ofNat p) σ) (fun t => pu_SR B L σ0 (pu_qB B L A p) (pu_eN B L (pu_eB2 B L w h A p) (1 : Nat) (3 : Nat) (pu_nk B L 6 p)) (pu_nk B L 7 p) t) := by
  obtain ⟨w1, w2, h1, h2⟩ := pu_AW_b W
  have hb8 : pu_v A 2 ≤ 8 := W.2.1.2.1
  have hA2 : A 2 = Int32.ofNat (pu_v A 2) := W.2.1.1
  unfold tw_P_X12_readBend
  rw [pu_l445, show Int32.toNatClampNeg (2 : Int32) = 2 from rfl]
  refine pu_ck (by decide) (pu_jn (R := fun t => pu_SR B L σ0 A (pu_fs none (pu_v A 2 ≠ 8) (-6) p) (pu_nx B L p) t) (fun t ht => ?_) (fun f hf => ?_))
  rotate_left
  · refine pu_if (fun c => hf _ ?_) (fun c => ?_) <;> rw [pu_sr445 H rfl (by decide), hA2, show (8 : Int32) = Int32.ofNat 8 from rfl, pu_eq (by omega) (by decide)] at c
    · exact pu_SR_c H (pu_fs_y c)
    · exact pu_bd (pu_srF (o := p) H (by decide) (fun _ => rfl)) (fun t ht => hf _ (pu_SR_c ht.1 (pu_fs_n c)))
  refine pu_bd (pu_srArea ht W.1 hn) (fun r3 hr => ?_)
  obtain ⟨H3, hv⟩ := hr
  refine pu_bd (pu_srW (q := 6) H3 (by decide) hn) (fun r4 hr => pu_lt ?_)
  obtain ⟨k1, k2, fb4⟩ := hr
  have hfld : ∀ t, pu_fB r3 t → pu_eB2 B L w h A p = none → t 442 15 = Int32.ofNat (pu_num B L (pu_nk B L 1 p)) ∧ t 442 16 = Int32.ofNat (pu_num B L (pu_nk B L 2 p)) ∧ t 442 17 = Int32.ofNat (pu_num B L (pu_nk B L 3 p)) ∧ t 442 18 = Int32.ofNat (pu_num B L (pu_nk B L 4 p)) := fun t ht z => by
    obtain ⟨-, a1, a2, a3, a4⟩ := hv (pu_fs0.mp z).1
    exact ⟨(ht.2 15 (by decide) (by decide) (by decide) (by decide)).trans a1, (ht.2 16 (by decide) (by decide) (by decide) (by decide)).trans a2, (ht.2 17 (by decide) (by decide) (by decide) (by decide)).trans a3, (ht.2 18 (by decide) (by decide) (by decide) (by decide)).trans a4⟩
  have hB2 : pu_eB2 B L w h A p = pu_fs (pu_eA B L w h (pu_fs none (pu_v A 2 ≠ 8) (-6) p) (pu_nx B L p)) (pu_isW B L (pu_nk B L 5 p) 6 = true ∨ pu_isW B L (pu_nk B L 5 p) 7 = true) (-2) (pu_nk B L 5 p) := rfl
  have hR : ∃ r6 t7, tw_P_X12_isGood r4.2 = some r6 ∧ pu_SR B L σ0 A (pu_eB2 B L w h A p) (pu_nk B L 6 p) t7 ∧ pu_fB r3 t7 ∧ (pu_eB2 B L w h A p = none → r4.1 = if pu_isW B L (pu_nk B L 5 p) 6 = true then 1 else 0) ∧ ∀ (f : tw_Sg → Option tw_Sg) (Q : tw_Sg → Prop), pu_wp (f t7) Q → pu_wp (if r6 = 0 then (f r4.2) else (if ¬ r4.1 = 0 then (f r4.2) else (tw_bd (tw_P_X12_takeWord n 7 r4.2) (fun r22 => if ¬ r22.1 = 0 then (f r22.2) else (tw_bd (tw_P_X12_report (-2 : Int32) (r22.2 442 4) r22.2) (fun r23 => f r23)))))) Q := by
    rw [hB2]
    cases hE : pu_eA B L w h (pu_fs none (pu_v A 2 ≠ 8) (-6) p) (pu_nx B L p) with
    | some e =>
      rw [hE] at k1 k2
      obtain ⟨y1, y2, -⟩ := k2 (fun z => by cases z.1)
      exact ⟨0, r4.2, pu_SR_g0 y2, pu_SR_any y2, fb4, fun z => (by cases z), fun f Q hq => pu_ift rfl hq⟩
    | none =>
      rw [hE] at k1 k2
      by_cases c6 : pu_isW B L (pu_nk B L 5 p) 6 = true
      · obtain ⟨y1, y2⟩ := k1 ⟨rfl, c6⟩
        rw [pu_fs_y (Or.inl c6), y1]
        exact ⟨1, r4.2, pu_SR_g1 y2, y2, fb4, fun z => by rw [if_pos c6], fun f Q hq => pu_iff pu_10 (pu_ift pu_10 hq)⟩
      · obtain ⟨y1, y2, y3⟩ := k2 (fun z => c6 z.2)
        rw [y1]
        have hw7 := pu_srW (q := 7) y2 (by decide) hn
        obtain ⟨r22, e22, z1, z2, fb7⟩ := hw7
        by_cases c7 : pu_isW B L (pu_nk B L 5 p) 7 = true
        · obtain ⟨x1, x2⟩ := z1 ⟨rfl, c7⟩
          rw [pu_fs_y (Or.inr c7)]
          exact ⟨1, r22.2, pu_SR_g1 y2, x2, pu_fB_trans fb4 fb7, fun z => by rw [if_neg c6], fun f Q hq => pu_iff pu_10 (pu_iff (fun z => z rfl) (pu_bde e22 (pu_ift (by rw [x1]; exact pu_10) hq)))⟩
        · obtain ⟨x1, x2, x3⟩ := z2 (fun z => c7 z.2)
          obtain ⟨u, eu, u1, u2⟩ := pu_srF (c := -2) (o := pu_nk B L 5 p) x2 (by decide) (v := r22.2 442 4) (fun _ => x3 rfl)
          rw [pu_fs_n (fun z => z.elim c6 c7)]
          exact ⟨1, u, pu_SR_g1 y2, pu_SR_any u1, pu_fB_trans fb4 (pu_fB_trans fb7 u2), fun z => (by cases z), fun f Q hq => pu_iff pu_10 (pu_iff (fun z => z rfl) (pu_bde e22 (pu_iff (fun z => z x1) (pu_bde eu hq))))⟩
  obtain ⟨r6, t7, e6, H7, fb7, hv5, hch⟩ := hR
  refine pu_bde e6 (pu_jn (R := fun a => a = t7) (fun a ha => ?_) (fun f hf => hch f _ (hf t7 rfl)))
  have ha : a = t7 := ha
  subst ha
  refine pu_bd (pu_srN (lo' := (1 : Nat)) (hi' := (3 : Nat)) H7 (fun _ => ⟨rfl, rfl⟩) hn) (fun r9 hr => pu_lt ?_)
  obtain ⟨v9, H9, fb9⟩ := hr
  have hE3 : pu_eN B L (pu_eB2 B L w h A p) (1 : Nat) (3 : Nat) (pu_nk B L 6 p) = pu_eN B L (pu_eB2 B L w h A p) (1 : Nat) (3 : Nat) (pu_nk B L 6 p) := rfl
  cases hE : pu_eN B L (pu_eB2 B L w h A p) (1 : Nat) (3 : Nat) (pu_nk B L 6 p) with
  | some e =>
    have H9' := pu_SR_c H9 hE.symm
    exact pu_bde (pu_SR_g0 H9') (pu_iff (fun z => z rfl) (pu_some (pu_SR_any H9')))
  | none =>
    have H9' := pu_SR_c H9 hE.symm
    have z2 := (pu_fs0.mp hE).1
    have hne8 : pu_v A 2 ≠ 8 := (pu_fs0.mp (pu_eA0 (pu_fs0.mp z2).1).1).2
    have hnb : pu_v A 2 < 8 := by omega
    obtain ⟨f15, f16, f17, f18⟩ := hfld r9.2 (pu_fB_trans fb7 fb9) z2
    refine pu_bde (pu_SR_g1 H9') (pu_ift pu_10 (pu_ck (by decide) ?_))
    have hat : tw_P_X12_bendAt (r9.2 445 2) r9.2 = some (Int32.ofNat (816 + 5 * pu_v A 2)) := by
      unfold tw_P_X12_bendAt
      rw [pu_sr445 H9' rfl (by decide), hA2, show (5 : Int32) * Int32.ofNat (pu_v A 2) = Int32.ofNat (5 * pu_v A 2) from pu_mul 5 _, show (816 : Int32) + Int32.ofNat (5 * pu_v A 2) = Int32.ofNat (816 + 5 * pu_v A 2) from pu_add 816 _]
    refine pu_bde hat (pu_lt ?_)
    rw [show Int32.ofNat (816 + 5 * pu_v A 2) + (1 : Int32) = Int32.ofNat (816 + 5 * pu_v A 2 + 1) from pu_add _ 1, show Int32.ofNat (816 + 5 * pu_v A 2) + (2 : Int32) = Int32.ofNat (816 + 5 * pu_v A 2 + 2) from pu_add _ 2, show Int32.ofNat (816 + 5 * pu_v A 2) + (3 : Int32) = Int32.ofNat (816 + 5 * pu_v A 2 + 3) from pu_add _ 3, show Int32.ofNat (816 + 5 * pu_v A 2) + (4 : Int32) = Int32.ofNat (816 + 5 * pu_v A 2 + 4) from pu_add _ 4, pu_n (show 816 + 5 * pu_v A 2 < 2147483648 by omega), pu_n (show 816 + 5 * pu_v A 2 + 1 < 2147483648 by omega), pu_n (show 816 + 5 * pu_v A 2 + 2 < 2147483648 by omega), pu_n (show 816 + 5 * pu_v A 2 + 3 < 2147483648 by omega), pu_n (show 816 + 5 * pu_v A 2 + 4 < 2147483648 by omega)]
    rw [f15]
    refine pu_ck (pu_ok (by omega) (by omega)) (pu_ltG (P := fun s => pu_SR B L σ0 (upd A (816 + 5 * pu_v A 2) (Int32.ofNat (pu_num B L (pu_nk B L 1 p)))) none (pu_nk B L 7 p) s ∧ s 442 = r9.2 442) ⟨pu_SR_put H9' (by omega) (by omega), tw_up_n (by decide)⟩ (fun s1 hs1 => ?_))
    obtain ⟨S1, u1⟩ := hs1
    rw [show s1 442 16 = _ from (congrFun u1 16).trans f16]
    refine pu_ck (pu_ok (by omega) (by omega)) (pu_ltG (P := fun s => pu_SR B L σ0 (upd (upd A (816 + 5 * pu_v A 2) (Int32.ofNat (pu_num B L (pu_nk B L 1 p)))) (816 + 5 * pu_v A 2 + 1) (Int32.ofNat (pu_num B L (pu_nk B L 2 p)))) none (pu_nk B L 7 p) s ∧ s 442 = r9.2 442) ⟨pu_SR_put S1 (by omega) (by omega), (tw_up_n (by decide)).trans u1⟩ (fun s2 hs2 => ?_))
    obtain ⟨S2, u2⟩ := hs2
    rw [show s2 442 17 = _ from (congrFun u2 17).trans f17]
    refine pu_ck (pu_ok (by omega) (by omega)) (pu_ltG (P := fun s => pu_SR B L σ0 (upd (upd (upd A (816 + 5 * pu_v A 2) (Int32.ofNat (pu_num B L (pu_nk B L 1 p)))) (816 + 5 * pu_v A 2 + 1) (Int32.ofNat (pu_num B L (pu_nk B L 2 p)))) (816 + 5 * pu_v A 2 + 2) (Int32.ofNat (pu_num B L (pu_nk B L 3 p)))) none (pu_nk B L 7 p) s ∧ s 442 = r9.2 442) ⟨pu_SR_put S2 (by omega) (by omega), (tw_up_n (by decide)).trans u2⟩ (fun s3 hs3 => ?_))
    obtain ⟨S3, u3⟩ := hs3
    rw [show s3 442 18 = _ from (congrFun u3 18).trans f18]
    refine pu_ck (pu_ok (by omega) (by omega)) (pu_ltG (P := fun s => pu_SR B L σ0 (upd (upd (upd (upd A (816 + 5 * pu_v A 2) (Int32.ofNat (pu_num B L (pu_nk B L 1 p)))) (816 + 5 * pu_v A 2 + 1) (Int32.ofNat (pu_num B L (pu_nk B L 2 p)))) (816 + 5 * pu_v A 2 + 2) (Int32.ofNat (pu_num B L (pu_nk B L 3 p)))) (816 + 5 * pu_v A 2 + 3) (Int32.ofNat (pu_num B L (pu_nk B L 4 p)))) none (pu_nk B L 7 p) s) (pu_SR_put S3 (by omega) (by omega)) (fun s4 S4 => ?_))
    refine pu_jn (R := fun a => a = pu_tB B L p) (fun a18 ha => ?_) (fun f hf => ?_)
    rotate_left
    · rw [hv5 z2, (v9 hE).1]
      unfold pu_tB at hf
      by_cases c6 : pu_isW B L (pu_nk B L 5 p) 6 = true
      · rw [if_pos c6] at hf ⊢
        exact pu_iff pu_10 (hf _ rfl)
      · rw [if_neg c6] at hf ⊢
        exact pu_ift rfl (hf _ rfl)
    have ha : a18 = pu_tB B L p := ha
    subst ha
    refine pu_ck (pu_ok (by omega) (by omega)) (pu_ltG (P := fun s => pu_SR B L σ0 (upd (upd (upd (upd (upd A (816 + 5 * pu_v A 2) (Int32.ofNat (pu_num B L (pu_nk B L 1 p)))) (816 + 5 * pu_v A 2 + 1) (Int32.ofNat (pu_num B L (pu_nk B L 2 p)))) (816 + 5 * pu_v A 2 + 2) (Int32.ofNat (pu_num B L (pu_nk B L 3 p)))) (816 + 5 * pu_v A 2 + 3) (Int32.ofNat (pu_num B L (pu_nk B L 4 p)))) (816 + 5 * pu_v A 2 + 4) (pu_tB B L p)) none (pu_nk B L 7 p) s) (pu_SR_put S4 (by omega) (by omega)) (fun s5 S5 => ?_))
    have e2 : s5 445 2 = Int32.ofNat (pu_v A 2) := by
      rw [pu_sr445 S5 rfl (by decide), pu_upd_n (by omega), pu_upd_n (by omega), pu_upd_n (by omega), pu_upd_n (by omega), pu_upd_n (by omega), hA2]
    rw [e2, show Int32.ofNat (pu_v A 2) + (1 : Int32) = Int32.ofNat (pu_v A 2 + 1) from pu_add _ 1]
    exact pu_ck (by decide) (pu_ck (by decide) (pu_lt (pu_some (pu_SR_put S5 (by decide) (by decide)))))
theorem pu_srG (H : pu_SR B L σ0 A E p σ) (hn : 2000 < n) : pu_wp (tw_P_X12_bearing n σ) (fun r => (pu_fs E (pu_bg B L p < 8) (-2) p = none → r.1 = Int32.ofNat (pu_bg B L p)) ∧ pu_SR B L σ0 A (pu_fs E (pu_bg B L p < 8) (-2) p) (pu_nx B L p) r.2 ∧ pu_fB σ r.2) := by
  unfold tw_P_X12_bearing
  cases E with
  | some e => exact pu_bde (pu_SR_g0 H) (pu_iff (fun z => z rfl) (pu_some ⟨fun z => (by cases z), pu_SR_any H, pu_fB_refl⟩))
  | none =>
    refine pu_bde (pu_SR_g1 H) (pu_ift pu_10 (pu_bd (pu_srW (q := 13) H (by decide) hn) (fun r0 hr0 => pu_jn (R := fun a => (pu_bg B L p < 8 → a.1 = Int32.ofNat (pu_bg B L p) ∧ pu_SR B L σ0 A none (pu_nx B L p) a.2) ∧ (¬ pu_bg B L p < 8 → a.1 = -1 ∧ pu_SR B L σ0 A none p a.2 ∧ a.2 442 4 = Int32.ofNat p) ∧ pu_fB σ a.2) (fun a ha => pu_lt (pu_jn0 ?_)) (fun g hg => ?_))))
    · obtain ⟨a1, a2, a3⟩ := ha
      by_cases c : pu_bg B L p < 8
      · obtain ⟨y1, y2⟩ := a1 c
        rw [pu_fs_y c, y1]
        exact pu_ift (pu_nm1 (by omega)) (pu_some ⟨fun _ => rfl, y2, a3⟩)
      · obtain ⟨y1, y2, y3⟩ := a2 c
        rw [pu_fs_n c, y1, y3]
        exact pu_iff (fun z => z rfl) (pu_bd (pu_srF (o := p) y2 (by decide) (fun _ => rfl)) (fun t ht => pu_some ⟨fun z => (by cases z), pu_SR_any ht.1, pu_fB_trans a3 ht.2⟩))
    have fb0 : pu_fB σ r0.2 := hr0.2.2
    by_cases c0 : pu_isW B L p 13 = true
    · have eb : pu_bg B L p = 0 := by unfold pu_bg; rw [if_pos c0]
      obtain ⟨y1, y2⟩ := hr0.1 ⟨rfl, c0⟩
      rw [eb] at hg ⊢
      exact pu_iff (by rw [y1]; exact pu_10) (hg ((0 : Int32), r0.2) ⟨fun _ => ⟨rfl, y2⟩, fun z => absurd (show 0 < 8 by decide) z, fb0⟩)
    obtain ⟨y0, H0, -⟩ := hr0.2.1 (fun z => c0 z.2)
    refine pu_ift y0 (pu_bd (pu_srW (q := 14) H0 (by decide) hn) (fun r1 hr1 => ?_))
    have fb1 : pu_fB σ r1.2 := pu_fB_trans fb0 hr1.2.2
    by_cases c1 : pu_isW B L p 14 = true
    · have eb : pu_bg B L p = 1 := by unfold pu_bg; rw [if_neg c0, if_pos c1]
      obtain ⟨y1, y2⟩ := hr1.1 ⟨rfl, c1⟩
      rw [eb] at hg ⊢
      exact pu_iff (by rw [y1]; exact pu_10) (hg ((1 : Int32), r1.2) ⟨fun _ => ⟨rfl, y2⟩, fun z => absurd (show 1 < 8 by decide) z, fb1⟩)
    obtain ⟨y1, H1, -⟩ := hr1.2.1 (fun z => c1 z.2)
    refine pu_ift y1 (pu_bd (pu_srW (q := 15) H1 (by decide) hn) (fun r2 hr2 => ?_))
    have fb2 : pu_fB σ r2.2 := pu_fB_trans fb1 hr2.2.2
    by_cases c2 : pu_isW B L p 15 = true
    · have eb : pu_bg B L p = 2 := by unfold pu_bg; rw [if_neg c0, if_neg c1, if_pos c2]
      obtain ⟨y1, y2⟩ := hr2.1 ⟨rfl, c2⟩
      rw [eb] at hg ⊢
      exact pu_iff (by rw [y1]; exact pu_10) (hg ((2 : Int32), r2.2) ⟨fun _ => ⟨rfl, y2⟩, fun z => absurd (show 2 < 8 by decide) z, fb2⟩)
    obtain ⟨y2, H2, -⟩ := hr2.2.1 (fun z => c2 z.2)
    refine pu_ift y2 (pu_bd (pu_srW (q := 16) H2 (by decide) hn) (fun r3 hr3 => ?_))
    have fb3 : pu_fB σ r3.2 := pu_fB_trans fb2 hr3.2.2
    by_cases c3 : pu_isW B L p 16 = true
    · have eb : pu_bg B L p = 3 := by unfold pu_bg; rw [if_neg c0, if_neg c1, if_neg c2, if_pos c3]
      obtain ⟨y1, y2⟩ := hr3.1 ⟨rfl, c3⟩
      rw [eb] at hg ⊢
      exact pu_iff (by rw [y1]; exact pu_10) (hg ((3 : Int32), r3.2) ⟨fun _ => ⟨rfl, y2⟩, fun z => absurd (show 3 < 8 by decide) z, fb3⟩)
    obtain ⟨y3, H3, -⟩ := hr3.2.1 (fun z => c3 z.2)
    refine pu_ift y3 (pu_bd (pu_srW (q := 17) H3 (by decide) hn) (fun r4 hr4 => ?_))
    have fb4 : pu_fB σ r4.2 := pu_fB_trans fb3 hr4.2.2
    by_cases c4 : pu_isW B L p 17 = true
    · have eb : pu_bg B L p = 4 := by unfold pu_bg; rw [if_neg c0, if_neg c1, if_neg c2, if_neg c3, if_pos c4]
      obtain ⟨y1, y2⟩ := hr4.1 ⟨rfl, c4⟩
      rw [eb] at hg ⊢
      exact pu_iff (by rw [y1]; exact pu_10) (hg ((4 : Int32), r4.2) ⟨fun _ => ⟨rfl, y2⟩, fun z => absurd (show 4 < 8 by decide) z, fb4⟩)
    obtain ⟨y4, H4, -⟩ := hr4.2.1 (fun z => c4 z.2)
    refine pu_ift y4 (pu_bd (pu_srW (q := 18) H4 (by decide) hn) (fun r5 hr5 => ?_))
    have fb5 : pu_fB σ r5.2 := pu_fB_trans fb4 hr5.2.2
    by_cases c5 : pu_isW B L p 18 = true
    · have eb : pu_bg B L p = 5 := by unfold pu_bg; rw [if_neg c0, if_neg c1, if_neg c2, if_neg c3, if_neg c4, if_pos c5]
      obtain ⟨y1, y2⟩ := hr5.1 ⟨rfl, c5⟩
      rw [eb] at hg ⊢
      exact pu_iff (by rw [y1]; exact pu_10) (hg ((5 : Int32), r5.2) ⟨fun _ => ⟨rfl, y2⟩, fun z => absurd (show 5 < 8 by decide) z, fb5⟩)
    obtain ⟨y5, H5, -⟩ := hr5.2.1 (fun z => c5 z.2)
    refine pu_ift y5 (pu_bd (pu_srW (q := 19) H5 (by decide) hn) (fun r6 hr6 => ?_))
    have fb6 : pu_fB σ r6.2 := pu_fB_trans fb5 hr6.2.2
    by_cases c6 : pu_isW B L p 19 = true
    · have eb : pu_bg B L p = 6 := by unfold pu_bg; rw [if_neg c0, if_neg c1, if_neg c2, if_neg c3, if_neg c4, if_neg c5, if_pos c6]
      obtain ⟨y1, y2⟩ := hr6.1 ⟨rfl, c6⟩
      rw [eb] at hg ⊢
      exact pu_iff (by rw [y1]; exact pu_10) (hg ((6 : Int32), r6.2) ⟨fun _ => ⟨rfl, y2⟩, fun z => absurd (show 6 < 8 by decide) z, fb6⟩)
    obtain ⟨y6, H6, -⟩ := hr6.2.1 (fun z => c6 z.2)
    refine pu_ift y6 (pu_bd (pu_srW (q := 20) H6 (by decide) hn) (fun r7 hr7 => ?_))
    have fb7 : pu_fB σ r7.2 := pu_fB_trans fb6 hr7.2.2
    by_cases c7 : pu_isW B L p 20 = true
    · have eb : pu_bg B L p = 7 := by unfold pu_bg; rw [if_neg c0, if_neg c1, if_neg c2, if_neg c3, if_neg c4, if_neg c5, if_neg c6, if_pos c7]
      obtain ⟨y1, y2⟩ := hr7.1 ⟨rfl, c7⟩
      rw [eb] at hg ⊢
      exact pu_iff (by rw [y1]; exact pu_10) (hg ((7 : Int32), r7.2) ⟨fun _ => ⟨rfl, y2⟩, fun z => absurd (show 7 < 8 by decide) z, fb7⟩)
    obtain ⟨y7, H7, x7⟩ := hr7.2.1 (fun z => c7 z.2)
    have eb : pu_bg B L p = 8 := by unfold pu_bg; rw [if_neg c0, if_neg c1, if_neg c2, if_neg c3, if_neg c4, if_neg c5, if_neg c6, if_neg c7]
    rw [eb] at hg ⊢
    exact pu_ift y7 (hg ((-1 : Int32), r7.2) ⟨fun z => absurd z (by decide), fun _ => ⟨rfl, H7, x7 rfl⟩, fb7⟩)
/-- a leg after its word -/
theorem pu_srLeg (H : pu_SR B L σ0 A none (pu_nx B L p) σ) (W : pu_AQ A w h q) (h8 : pu_nl A q ≠ 8) (hn : 2000 < n) : pu_wp (tw_P_X12_readLeg n (Int32.ofNat (pu_cl q)) (Int32.ofNat (pu_lk B L p)) σ) (fun t => pu_SR B L σ0 (pu_qG B L A q p) (pu_eG B L A q none p) (pu_pG B L p) t) := by
  have hB := pu_SR_B H
  have hq4 := W.2.1
  have hcl2 : pu_cl q + 43 ≤ 1028 := by unfold pu_cl; omega
  have n9 : pu_nl A q < 9 := W.2.2.1.2.2.1.2
  have hnl : A (pu_cl q + 2) = Int32.ofNat (pu_nl A q) := W.2.2.1.2.2.1.1
  have l0 : pu_l0 A q none p = none := pu_fs_y h8
  have hk3 := pu_lk3 (B := B) (L := L) (p := p)
  have ek0 : Int32.ofNat (pu_lk B L p) = 0 ↔ pu_lk B L p = 0 := pu_eq (b := 0) (by omega) (by decide)
  have ek1 : Int32.ofNat (pu_lk B L p) = 1 ↔ pu_lk B L p = 1 := pu_eq (b := 1) (by omega) (by decide)
  unfold tw_P_X12_readLeg
  refine pu_jn (R := fun a => pu_SR B L σ0 A (pu_l1 B L A q (pu_lk B L p) none p) (pu_p1 B L (pu_lk B L p) p) a.2 ∧ (pu_l1 B L A q (pu_lk B L p) none p = none → a.1 = Int32.ofNat (pu_m1 B L (pu_lk B L p) p))) (fun a1 ha => ?_) (fun f hf => ?_)
  rotate_left
  · unfold pu_l1 pu_p1 pu_m1 at hf
    rw [l0] at hf
    refine pu_if (fun c => ?_) (fun c => ?_) <;> rw [ek0] at c
    · rw [if_neg c, if_neg c] at hf
      refine pu_if (fun c1 => ?_) (fun c1 => ?_) <;> rw [ek1] at c1
      · rw [if_neg c1, if_neg c1, if_pos (show pu_lk B L p = 2 by omega)] at hf
        exact hf _ ⟨H, fun _ => rfl⟩
      · have c1 := Classical.not_not.mp c1
        rw [if_pos c1, if_pos c1, if_neg (show ¬ pu_lk B L p = 2 by omega)] at hf
        exact pu_bd (pu_srK H hn) (fun r hr => hf _ ⟨hr.2.1, fun z => (hr.1 z).1⟩)
    · have c := Classical.not_not.mp c
      rw [if_pos c, if_pos c, if_neg (show ¬ pu_lk B L p = 2 by omega)] at hf
      exact pu_bd (pu_srN (lo' := (0 : Nat)) (hi' := (30 : Nat)) H (fun _ => ⟨rfl, rfl⟩) hn) (fun r hr => hf _ ⟨hr.2.1, fun z => (hr.1 z).1⟩)
  obtain ⟨H1, v1⟩ := ha
  refine pu_lt (pu_bd (pu_srG H1 hn) (fun r4 hr => pu_lt (pu_lt ?_)))
  obtain ⟨v4, H4, -⟩ := hr
  refine pu_jn (R := fun a => pu_SR B L σ0 A (pu_eG B L A q none p) (pu_pG B L p) a.2 ∧ (pu_eG B L A q none p = none → a.1 = Int32.ofNat (pu_g3 B L (pu_lk B L p) (pu_gm B L (pu_lk B L p) p) p))) (fun a7 ha => ?_) (fun f hf => ?_)
  rotate_left
  · have hG : pu_eG B L A q none p = pu_l3 B L A q (pu_lk B L p) (pu_gm B L (pu_lk B L p) p) none p := rfl
    have hP : pu_pG B L p = pu_p3 B L (pu_lk B L p) (pu_gm B L (pu_lk B L p) p) p := rfl
    have h2 : pu_l2 B L A q (pu_lk B L p) none p = pu_fs (pu_l1 B L A q (pu_lk B L p) none p) (pu_bg B L (pu_p1 B L (pu_lk B L p) p) < 8) (-2) (pu_p1 B L (pu_lk B L p) p) := rfl
    rw [← h2] at H4
    have H4 : pu_SR B L σ0 A (pu_l2 B L A q (pu_lk B L p) none p) (pu_p2 B L (pu_lk B L p) p) r4.2 := H4
    rw [hG, hP] at hf ⊢
    refine pu_if (fun c => ?_) (fun c => ?_) <;> rw [ek0] at c
    · have g0 : pu_gm B L (pu_lk B L p) p = false := by unfold pu_gm; rw [decide_eq_false c]; rfl
      rw [g0] at hf ⊢
      exact hf ((0 : Int32), r4.2) ⟨H4, fun _ => rfl⟩
    · have c := Classical.not_not.mp c
      refine pu_bd (pu_srW (q := 12) H4 (by decide) hn) (fun r16 hr => ?_)
      obtain ⟨k1, k2, -⟩ := hr
      by_cases z : pu_l2 B L A q (pu_lk B L p) none p = none ∧ pu_isW B L (pu_p2 B L (pu_lk B L p) p) 12 = true
      · obtain ⟨y1, y2⟩ := k1 z
        have g0 : pu_gm B L (pu_lk B L p) p = true := by unfold pu_gm; rw [decide_eq_true c, z.2]; rfl
        rw [g0] at hf ⊢
        refine pu_iff (by rw [y1]; exact pu_10) (pu_bd (pu_srN (lo' := (0 : Nat)) (hi' := (5 : Nat)) y2 (fun _ => ⟨rfl, rfl⟩) hn) (fun r hr => pu_lt (hf _ ⟨hr.2.1, fun z => (hr.1 z).1⟩)))
      · obtain ⟨y1, y2, -⟩ := k2 z
        refine pu_ift y1 (hf ((0 : Int32), r16.2) ?_)
        cases e2 : pu_l2 B L A q (pu_lk B L p) none p with
        | some e =>
          rw [pu_l3_e2 e2]
          rw [e2] at y2
          exact ⟨pu_SR_any y2, fun z => (by cases z)⟩
        | none =>
          have g0 : pu_gm B L (pu_lk B L p) p = false := by
            unfold pu_gm
            rw [Bool.eq_false_iff.mpr (fun y => z ⟨e2, y⟩), Bool.and_false]
          rw [g0]
          exact ⟨y2, fun _ => rfl⟩
  obtain ⟨H7, v7⟩ := ha
  cases hE : pu_eG B L A q none p with
  | some e =>
    have H7' := pu_SR_c H7 hE.symm
    exact pu_bde (pu_SR_g0 H7') (pu_iff (fun z => z rfl) (pu_some (pu_SR_any H7')))
  | none =>
    have H7' := pu_SR_c H7 hE.symm
    obtain ⟨-, z1, z2⟩ := pu_l3_0 hE
    have n8 : pu_nl A q < 8 := by omega
    refine pu_bde (pu_SR_g1 H7') (pu_ift pu_10 ?_)
    have eL : pu_lg q (pu_nl A q) = pu_cl q + (11 + 4 * pu_nl A q) := by unfold pu_lg pu_cl; omega
    have e10 : (Int32.ofNat (pu_cl q) + (11 : Int32)) + (4 : Int32) * Int32.ofNat (pu_nl A q) = Int32.ofNat (pu_lg q (pu_nl A q)) := by
      rw [show Int32.ofNat (pu_cl q) + (11 : Int32) = Int32.ofNat (pu_cl q + 11) from pu_add _ 11, show (4 : Int32) * Int32.ofNat (pu_nl A q) = Int32.ofNat (4 * pu_nl A q) from pu_mul 4 _, pu_add, eL, Nat.add_assoc]
    rw [pu_l445, show Int32.ofNat (pu_cl q) + (2 : Int32) = Int32.ofNat (pu_cl q + 2) from pu_add _ 2, pu_n (show pu_cl q + 2 < 2147483648 by omega), pu_sr445 H7' rfl (show pu_cl q + 2 ≠ 4 by unfold pu_cl; omega), hnl, e10, v1 z1, v4 z2, v7 hE]
    refine pu_ck (pu_ok (by omega) (by omega)) (pu_lt ?_)
    rw [show Int32.ofNat (pu_lg q (pu_nl A q)) + (0 : Int32) = Int32.ofNat (pu_lg q (pu_nl A q)) from pu_add _ 0, show Int32.ofNat (pu_lg q (pu_nl A q)) + (1 : Int32) = Int32.ofNat (pu_lg q (pu_nl A q) + 1) from pu_add _ 1, show Int32.ofNat (pu_lg q (pu_nl A q)) + (2 : Int32) = Int32.ofNat (pu_lg q (pu_nl A q) + 2) from pu_add _ 2, show Int32.ofNat (pu_lg q (pu_nl A q)) + (3 : Int32) = Int32.ofNat (pu_lg q (pu_nl A q) + 3) from pu_add _ 3, pu_n (show pu_lg q (pu_nl A q) < 2147483648 by omega), pu_n (show pu_lg q (pu_nl A q) + 1 < 2147483648 by omega), pu_n (show pu_lg q (pu_nl A q) + 2 < 2147483648 by omega), pu_n (show pu_lg q (pu_nl A q) + 3 < 2147483648 by omega)]
    have h856 : 856 ≤ pu_cl q := by unfold pu_cl; omega
    refine pu_ck (pu_ok (by omega) (by omega)) (pu_ltG (pu_SR_put H7' (by omega) (by omega)) (fun s1 S1 => ?_))
    refine pu_ck (pu_ok (by omega) (by omega)) (pu_ltG (pu_SR_put S1 (by omega) (by omega)) (fun s2 S2 => ?_))
    refine pu_ck (pu_ok (by omega) (by omega)) (pu_ltG (pu_SR_put S2 (by omega) (by omega)) (fun s3 S3 => ?_))
    refine pu_ck (pu_ok (by omega) (by omega)) (pu_ltG (pu_SR_put S3 (by omega) (by omega)) (fun s4 S4 => ?_))
    have e2 : s4 445 (pu_cl q + 2) = Int32.ofNat (pu_nl A q) := by
      rw [pu_sr445 S4 rfl (by omega), pu_upd_n (by omega), pu_upd_n (by omega), pu_upd_n (by omega), pu_upd_n (by omega), hnl]
    rw [e2, show Int32.ofNat (pu_nl A q) + (1 : Int32) = Int32.ofNat (pu_nl A q + 1) from pu_add _ 1]
    exact pu_ck (pu_ok (by omega) (by omega)) (pu_ck (pu_ok (by omega) (by omega)) (pu_lt (pu_some (pu_SR_put S4 (by omega) (by omega)))))
end RBND
