/-! the reference: a clue, a statement, load -/
section RLD
variable {σ σ0 : tw_Sg} {B : Nat → Nat} {L p n w h q : Nat} {E : Option (Int32 × Nat)} {A A' : Nat → Int32}
theorem pu_srClue (H : pu_SR B L σ0 A none (pu_nx B L p) σ) (W : pu_AW A w h) (hn : 2000 < n) : pu_wp (tw_P_X12_readClue n (Int32.ofNat p) σ) (fun t => pu_SR B L σ0 (pu_aC (pu_x3 B L A p).2.2 (pu_v A 3)) (pu_x3 B L A p).1 (pu_x3 B L A p).2.1 t) := by
  have hL := pu_SR_L H
  have hB := pu_SR_B H
  have h4 : pu_v A 3 ≤ 4 := W.2.2.1.2.1
  have hA3 : A 3 = Int32.ofNat (pu_v A 3) := W.2.2.1.1
  have e3 : σ 445 3 = Int32.ofNat (pu_v A 3) := (pu_sr445 H rfl (by decide)).trans hA3
  unfold tw_P_X12_readClue
  rw [pu_l445, show Int32.toNatClampNeg (3 : Int32) = 3 from rfl]
  refine pu_ck (by decide) (pu_jn (R := fun t => pu_SR B L σ0 A (pu_fs none (pu_v A 3 ≠ 4) (-6) p) (pu_nx B L p) t) (fun t ht => ?_) (fun f hf => ?_))
  rotate_left
  · refine pu_if (fun c => hf _ ?_) (fun c => ?_) <;> rw [e3, show (4 : Int32) = Int32.ofNat 4 from rfl, pu_eq (by omega) (by decide)] at c
    · exact pu_SR_c H (pu_fs_y c)
    · exact pu_bd (pu_srF (o := p) H (by decide) (fun _ => rfl)) (fun t ht => hf _ (pu_SR_c ht.1 (pu_fs_n c)))
  cases h0 : pu_fs none (pu_v A 3 ≠ 4) (-6) p with
  | some e =>
    have ht' := pu_SR_c ht h0.symm
    have e1 : (pu_x1 B L A p).1 = some e := by
      show pu_eZ B L A (pu_v A 3) (pu_fs none (pu_v A 3 ≠ 4) (-6) p) (pu_nx B L p) = some e
      rw [h0]
      rfl
    have ex : pu_x3 B L A p = pu_x1 B L A p := by
      unfold pu_x3
      rw [pu_zs_e (fun z => by rw [e1] at z; cases z.1), pu_gs_e (fun z => by rw [e1] at z; cases z.1)]
    rw [ex, e1]
    exact pu_bde (pu_SR_g0 ht') (pu_iff (fun z => z rfl) (pu_some (pu_SR_any ht')))
  | none =>
    have ht' := pu_SR_c ht h0.symm
    have hq : pu_v A 3 < 4 := by have := (pu_fs0.mp h0).2; omega
    have WQ := pu_AW_AQ W hq
    refine pu_bde (pu_SR_g1 ht') (pu_ift pu_10 (pu_ck (by decide) ?_))
    have hat : tw_P_X12_clueAt (t 445 3) t = some (Int32.ofNat (pu_cl (pu_v A 3))) := by
      unfold tw_P_X12_clueAt
      rw [pu_sr445 ht' rfl (by decide), hA3, show (43 : Int32) * Int32.ofNat (pu_v A 3) = Int32.ofNat (43 * pu_v A 3) from pu_mul 43 _, show (856 : Int32) + Int32.ofNat (43 * pu_v A 3) = Int32.ofNat (856 + 43 * pu_v A 3) from pu_add 856 _]
      rfl
    refine pu_bde hat (pu_lt (pu_bd (pu_srZ ht' WQ hn) (fun r6 hr => ?_)))
    have hx1 : pu_x1 B L A p = (pu_eZ B L A (pu_v A 3) none (pu_nx B L p), pu_nx B L (pu_nx B L p), pu_qZ B A (pu_v A 3) (pu_nx B L p)) := by
      unfold pu_x1 pu_z1s
      rw [h0]
    have hx3 : pu_gs B L (pu_v A 3) (L + 1) (pu_zs B L (pu_v A 3) (L + 1) (pu_x1 B L A p)) = pu_x3 B L A p := rfl
    have H1 : pu_SR B L σ0 (pu_x1 B L A p).2.2 (pu_x1 B L A p).1 (pu_x1 B L A p).2.1 r6 := by rw [hx1]; exact hr
    have W1 : (pu_x1 B L A p).1 = none → pu_AQ (pu_x1 B L A p).2.2 w h (pu_v A 3) := fun z => by
      rw [hx1] at z ⊢
      exact (pu_Z_AQ hB WQ z).2.1
    generalize pu_x1 B L A p = X1 at hx3 H1 W1
    generalize pu_x3 B L A p = X3 at hx3 ⊢
    clear hx1 hr hat ht' WQ h0 ht e3 hA3 h4
    generalize pu_v A 3 = q at *
    have hms : pu_mz B L r6 ≤ 601 := by
      cases hE : X1.1 with
      | none => have := (pu_mz0 (pu_SR_c H1 hE.symm)).1; omega
      | some e => have := pu_mz1 (pu_SR_c H1 hE.symm); omega
    refine pu_lp (J := fun x => ∃ f X, pu_gs B L q (L + 1) (pu_zs B L q f X) = X3 ∧ pu_SR B L σ0 X.2.2 X.1 X.2.1 x ∧ (X.1 = none → pu_AQ X.2.2 w h q ∧ L < f + X.2.1)) (m := fun x => pu_mz B L x) ?_ n _ (by show pu_mz B L r6 < n; omega) ⟨L + 1, X1, hx3, H1, fun z => ⟨W1 z, by omega⟩⟩
    clear hms hx3 H1 W1
    rintro k8 s ⟨f, X, hX, HX, hF⟩ hk8
    refine pu_bd (pu_srW (q := 8) HX (by decide) hn) (fun r9 h9 => ?_)
    by_cases z : X.1 = none ∧ pu_isW B L X.2.1 8 = true
    · obtain ⟨y1, y2⟩ := h9.1 z
      obtain ⟨E, p', A1⟩ := X
      have hE : E = none := z.1
      subst hE
      obtain ⟨WQ, hf⟩ := hF rfl
      dsimp only [] at HX y2 WQ hf
      have hpl : p' < L := pu_isW_lt z.2
      have hp1 : p' < pu_nk B L 2 p' ∧ pu_nk B L 2 p' ≤ L := pu_nk_lt (B := B) hpl 1
      refine pu_iff (by rw [y1]; exact pu_10) (pu_bd (pu_srZ y2 WQ hn) (fun r41 hr => ?_))
      cases f with
      | zero => omega
      | succ f =>
        rw [pu_zs_s z] at hX
        refine hk8 _ ⟨f, _, hX, hr, fun y => ⟨(pu_Z_AQ hB WQ y).2.1, ?_⟩⟩ (pu_mz_lt HX hr (fun _ => hp1.1))
        show L < f + pu_nk B L 2 p'
        omega
    · obtain ⟨y1, y2, -⟩ := h9.2.1 z
      rw [pu_zs_e z] at hX
      refine pu_ift y1 ?_
      cases hE : X.1 with
      | none =>
        have y3 := pu_SR_c y2 hE.symm
        exact pu_bde (pu_SR_g1 y3) (pu_lt (pu_srLegs y2 (fun y => (hF y).1) (by rw [if_pos hE]) hX hq hn))
      | some e =>
        have y3 := pu_SR_c y2 hE.symm
        exact pu_bde (pu_SR_g0 y3) (pu_lt (pu_srLegs y2 (fun y => (hF y).1) (by rw [if_neg (by rw [hE]; intro y; cases y)]) hX hq hn))
theorem pu_srStm (H : pu_SR B L σ0 A none p σ) (W : pu_AW A w h) (hn : 2000 < n) : pu_wp (tw_P_X12_statement n σ) (fun t => pu_SR B L σ0 (pu_stm B L w h p A).2.2 (pu_stm B L w h p A).1 (pu_stm B L w h p A).2.1 t) := by
  have hne : ∀ k, ¬ (none = (none : Option (Int32 × Nat)) ∧ pu_isW B L p k = true) → ¬ pu_isW B L p k = true := fun k z y => z ⟨rfl, y⟩
  obtain ⟨X0, hX0⟩ : ∃ X0, X0 = pu_stm B L w h p A := ⟨_, rfl⟩
  rw [← hX0]
  unfold tw_P_X12_statement
  refine pu_bd (pu_srH H hn) (fun r1 hr => pu_lt ?_)
  obtain ⟨-, H1, e4, -⟩ := hr
  rw [e4]
  refine pu_bd (pu_srW (q := 0) H1 (by decide) hn) (fun r3 h3 => ?_)
  refine pu_jn (R := fun t => pu_wp (tw_P_X12_expect n (59 : Int32) t) (fun t => pu_SR B L σ0 X0.2.2 X0.1 X0.2.1 t)) (fun t ht => pu_bd ht (fun u hu => pu_some hu)) (fun g hg => ?_)
  unfold pu_stm at hX0
  by_cases c0 : pu_isW B L p 0 = true
  · obtain ⟨y1, y2⟩ := h3.1 ⟨rfl, c0⟩
    rw [if_pos c0] at hX0
    subst hX0
    refine pu_iff (by rw [y1]; exact pu_10) (pu_bd (pu_srWater y2 W hn) (fun t ht => hg t ?_))
    dsimp only []
    rw [pu_eW_eq]
    exact pu_cons (pu_srS ht hn) (fun u hu => hu.1)
  rw [if_neg c0] at hX0
  obtain ⟨y1, H2, -⟩ := h3.2.1 (fun z => c0 z.2)
  refine pu_ift y1 (pu_bd (pu_srW (q := 1) H2 (by decide) hn) (fun r7 h7 => ?_))
  by_cases c1 : pu_isW B L p 1 = true
  · obtain ⟨y1, y2⟩ := h7.1 ⟨rfl, c1⟩
    rw [if_pos c1] at hX0
    subst hX0
    exact pu_iff (by rw [y1]; exact pu_10) (pu_bd (pu_srBend y2 W hn) (fun t ht => hg t (pu_cons (pu_srS ht hn) (fun u hu => hu.1))))
  rw [if_neg c1] at hX0
  obtain ⟨y1, H3, -⟩ := h7.2.1 (fun z => c1 z.2)
  refine pu_ift y1 (pu_bd (pu_srW (q := 2) H3 (by decide) hn) (fun r8 h8 => ?_))
  by_cases c2 : pu_isW B L p 2 = true
  · obtain ⟨y1, y2⟩ := h8.1 ⟨rfl, c2⟩
    rw [if_pos c2] at hX0
    subst hX0
    exact pu_iff (by rw [y1]; exact pu_10) (pu_bd (pu_srMark y2 W hn) (fun t ht => hg t (pu_cons (pu_srS ht hn) (fun u hu => hu.1))))
  rw [if_neg c2] at hX0
  obtain ⟨y1, H4, -⟩ := h8.2.1 (fun z => c2 z.2)
  refine pu_ift y1 (pu_bd (pu_srW (q := 3) H4 (by decide) hn) (fun r9 h9 => ?_))
  by_cases c3 : pu_isW B L p 3 = true
  · obtain ⟨y1, y2⟩ := h9.1 ⟨rfl, c3⟩
    rw [if_pos c3] at hX0
    subst hX0
    exact pu_iff (by rw [y1]; exact pu_10) (pu_bd (pu_srTeam y2 W hn) (fun t ht => hg t (pu_cons (pu_srS ht hn) (fun u hu => hu.1))))
  rw [if_neg c3] at hX0
  obtain ⟨y1, H5, -⟩ := h9.2.1 (fun z => c3 z.2)
  refine pu_ift y1 (pu_bd (pu_srW (q := 4) H5 (by decide) hn) (fun r10 h10 => ?_))
  by_cases c4 : pu_isW B L p 4 = true
  · obtain ⟨y1, y2⟩ := h10.1 ⟨rfl, c4⟩
    rw [if_pos c4] at hX0
    subst hX0
    exact pu_iff (by rw [y1]; exact pu_10) (pu_bd (pu_srClue y2 W hn) (fun t ht => hg t (pu_cons (pu_srS ht hn) (fun u hu => hu.1))))
  rw [if_neg c4] at hX0
  obtain ⟨y1, H6, -⟩ := h10.2.1 (fun z => c4 z.2)
  subst hX0
  refine pu_ift y1 (pu_bd (pu_srF (o := p) H6 (by decide) (fun _ => rfl)) (fun t ht => hg t ?_))
  exact pu_cons (pu_srS ht.1 hn) (fun u hu => pu_SR_any hu.1)
theorem pu_nb1_m1 (hB : ∀ i, i < L → B i < 256) : pu_nb1 B L p = (-1 : Int32) ↔ ¬ p < L := by
  unfold pu_nb1
  by_cases c : p < L
  · have := hB p c
    rw [if_pos c]
    exact ⟨fun z => absurd z (pu_nm1 (by omega)), fun z => absurd c z⟩
  · rw [if_neg c]
    exact ⟨fun _ => c, fun _ => rfl⟩
theorem pu_rlN {lo hi : Int32} {lo' hi' : Int} (H : pu_rL B L p E σ) (hl : lo.toInt = lo' ∧ hi.toInt = hi') (hn : 2000 < n) : pu_wp (tw_P_X12_number n lo hi σ) (fun r => (pu_eN B L E lo' hi' p = none → r.1 = Int32.ofNat (pu_num B L p)) ∧ pu_rL B L (pu_nx B L p) (pu_eN B L E lo' hi' p) r.2 ∧ pu_fB σ r.2) := by
  obtain ⟨l1, l2⟩ := hl
  cases E with
  | none =>
    refine pu_cons (pu_rnum H hn) (fun r hr => ?_)
    obtain ⟨r1, r2, r3⟩ := hr
    rw [l1, l2] at r1 r2
    by_cases c : pu_numOkR B L p lo' hi'
    · obtain ⟨g1, g2, g3⟩ := r1 c
      refine ⟨fun _ => g1, ?_, r3⟩
      unfold pu_eN
      rw [pu_fs_y c]
      exact g2
    · have g := r2 c
      refine ⟨fun z => absurd (pu_fs0.mp z).2 c, ?_, r3⟩
      unfold pu_eN
      rw [pu_fs_n c]
      exact pu_rL_any g
  | some e => exact ⟨_, pu_rnum1 H, fun z => (by cases z), pu_rL_any H, pu_fB_refl⟩
theorem pu_max1 {k : Nat} (h1 : 1 ≤ k) (h2 : k ≤ 20) : (if (1 : Int32) ≤ Int32.ofNat k then Int32.ofNat k else 1) = Int32.ofNat k := if_pos ((pu_le (a := 1) (by decide) (by omega)).mpr h1)
theorem pu_toIs {a : Nat} (h : a < 100) : (Int32.ofNat a).toInt = ((a : Nat) : Int) := pu_toInt (by omega)
theorem pu_rreadAll (hL : L ≤ 600) (h3 : σ 442 3 = Int32.ofNat L) (hT : ∀ i, i < L → σ 443 i = Int32.ofNat (B i) ∧ B i < 256) (h4 : σ 442 4 = 0) (h5 : σ 442 5 = 0) (h6 : σ 442 6 = -1) (h13 : σ 442 13 = -1) (hz : ∀ j, 1028 ≤ j → σ 445 j = 0) (hn : 2000 < n) {K : tw_Sg → Option (Int32 × tw_Sg)} {R : Int32 × tw_Sg → Prop} (hK : ∀ t, pu_SR B L σ (pu_Xf B L).2.2 (pu_Xf B L).1 (pu_Xf B L).2.1 t → ((pu_Xf B L).1 = none → pu_AW (pu_Xf B L).2.2 (pu_wN B L) (pu_hN B L)) → pu_wp (K t) R) : pu_wp (tw_bd (tw_P_X12_takeWord n 5 σ) (fun r12 =>
tw_jn (fun (a13 : tw_Sg) =>
tw_bd (tw_P_X12_number n (1 : Int32) (20 : Int32) a13) (fun r15 =>
tw_lt r15.1 (fun (v16 : Int32) =>
tw_bd (tw_P_X12_number n (1 : Int32) (20 : Int32) r15.2) (fun r17 =>
tw_lt r17.1 (fun (v18 : Int32) =>
tw_bd (tw_P_X12_max (1 : Int32) v16 r17.2) (fun r19 =>
tw_bd (tw_P_X12_max (1 : Int32) v18 r17.2) (fun r20 =>
tw_bd (tw_P_X12_layMap n 445 r19 r20 r17.2) (fun r21 =>
tw_bd (tw_P_X12_expect n (59 : Int32) r21) (fun r22 =>
tw_lp (fun (k24 : (tw_Sg) → Option (Int32 × tw_Sg)) (a23 : tw_Sg) =>
tw_bd (tw_P_X12_isGood a23) (fun r25 =>
tw_jn (fun (a26 : tw_Sg) => K a26) (fun (j27 : (tw_Sg) → Option (Int32 × tw_Sg)) =>
if r25 = 0 then (j27 a23)
else (tw_bd (tw_P_X12_ahead n a23) (fun r36 =>
if r36.1 = (-1 : Int32) then (j27 r36.2)
else (tw_bd (tw_P_X12_statement n r36.2) (fun r37 =>
k24 r37))))))) n r22))))))))) (fun (j14 : (tw_Sg) → Option (Int32 × tw_Sg)) =>
if ¬ r12.1 = 0 then (j14 r12.2)
else (tw_bd (tw_P_X12_report (-2 : Int32) (r12.2 442 4) r12.2) (fun r38 =>
j14 r38))))) R := by
  have hB : ∀ i, i < L → B i < 256 := fun i hi => (hT i hi).2
  have hXf : pu_run B L (pu_wN B L) (pu_hN B L) (L + 1) (pu_Xm B L) = pu_Xf B L := rfl
  have hXm : pu_Xm B L = (pu_eMap B L (pu_sk B L 0), pu_nk B L 4 (pu_sk B L 0), pu_A0 (pu_wN B L) (pu_hN B L)) := rfl
  have hwN : pu_wN B L = pu_num B L (pu_nk B L 1 (pu_sk B L 0)) := rfl
  have hhN : pu_hN B L = pu_num B L (pu_nk B L 2 (pu_sk B L 0)) := rfl
  have hsk := pu_sk_rng (B := B) (L := L) (L - 0) 0 rfl (Nat.zero_le _)
  have H0 : pu_rL B L (pu_sk B L 0) none σ := ⟨⟨h3, hL, hT⟩, ⟨h5, h6⟩, fun _ => ⟨hsk.2.1, 0, Nat.zero_le _, h4, rfl⟩⟩
  generalize pu_Xf B L = Xf at *
  generalize pu_Xm B L = Xm at *
  generalize pu_wN B L = wN at *
  generalize pu_hN B L = hN at *
  generalize pu_sk B L 0 = p0 at *
  refine pu_bd (pu_rtakeW (w := 5) H0 (by decide) hn) (fun r12 h12 => ?_)
  obtain ⟨k0, k1, k2, fb1⟩ := h12
  refine pu_jn (R := fun t => pu_rL B L (pu_nk B L 1 p0) (pu_fs none (pu_isW B L p0 5 = true) (-2) p0) t ∧ pu_fB σ t) (fun t ht => ?_) (fun g hg => ?_)
  rotate_left
  · by_cases c : pu_isW B L p0 5 = true
    · rw [pu_fs_y c] at hg
      exact pu_ift (by rw [k0, c]; exact pu_10) (hg _ ⟨k1 c, fb1⟩)
    · rw [pu_fs_n c] at hg
      rw [(k2 c).2]
      exact pu_iff (fun z => z (by rw [k0, Bool.eq_false_iff.mpr c]; rfl)) (pu_bd (pu_rrep (o := p0) (k2 c).1 (by decide)) (fun t ht => hg t ⟨pu_rL_any ht.1, pu_fB_trans fb1 ht.2⟩))
  obtain ⟨H1, fb2⟩ := ht
  refine pu_bd (pu_rlN (lo' := (1 : Nat)) (hi' := (20 : Nat)) H1 ⟨rfl, rfl⟩ hn) (fun r15 h15 => pu_lt ?_)
  obtain ⟨v15, H2, fb3⟩ := h15
  refine pu_bd (pu_rlN (lo' := (1 : Nat)) (hi' := (20 : Nat)) H2 ⟨rfl, rfl⟩ hn) (fun r17 h17 => pu_lt ?_)
  obtain ⟨v17, H3, fb4⟩ := h17
  have fb : pu_fB σ r17.2 := pu_fB_trans fb2 (pu_fB_trans fb3 fb4)
  have eMap : pu_eMap B L p0 = pu_fs (pu_eN B L (pu_eN B L (pu_fs none (pu_isW B L p0 5 = true) (-2) p0) (1 : Nat) (20 : Nat) (pu_nk B L 1 p0)) (1 : Nat) (20 : Nat) (pu_nk B L 2 p0)) (pu_semi B L (pu_nk B L 3 p0) = true) (-2) (pu_nk B L 3 p0) := rfl
  refine pu_bde pu_max (pu_bde pu_max ?_)
  obtain ⟨w', ew⟩ : ∃ w', (if (1 : Int32) ≤ r15.1 then r15.1 else 1) = Int32.ofNat w' := ⟨_, pu_N_ofNat rfl⟩
  obtain ⟨h', eh⟩ : ∃ h', (if (1 : Int32) ≤ r17.1 then r17.1 else 1) = Int32.ofNat h' := ⟨_, pu_N_ofNat rfl⟩
  have hz2 : ∀ j, 1028 ≤ j → r17.2 445 j = 0 := fun j hj => by rw [fb.1 445 (by decide)]; exact hz j hj
  have hlay : ∀ w1 h1, pu_wp (tw_P_X12_layMap n 445 (Int32.ofNat w1) (Int32.ofNat h1) r17.2) (fun u => pu_SR B L σ (pu_A0 w1 h1) (pu_eN B L (pu_eN B L (pu_fs none (pu_isW B L p0 5 = true) (-2) p0) (1 : Nat) (20 : Nat) (pu_nk B L 1 p0)) (1 : Nat) (20 : Nat) (pu_nk B L 2 p0)) (pu_nk B L 3 p0) u) := fun w1 h1 => pu_cons (pu_rlayMap (r0 := 445) (Or.inr (Or.inl rfl)) hz2 hn) (fun u hu => by
    obtain ⟨u1, u2⟩ := hu
    obtain ⟨⟨a1, a2, a3⟩, a4, a5⟩ := H3
    have e442 : u 442 = r17.2 442 := u2 442 (by decide)
    refine ⟨⟨⟨by rw [e442]; exact a1, a2, fun i hi => by rw [u2 443 (by decide)]; exact a3 i hi⟩, ?_, fun z => by rw [e442]; exact a5 z⟩, fun j hj => by rw [u1]; exact pu_a0_z (by omega) (by omega), fun _ => ⟨?_, ?_⟩, ⟨fun k b1 b2 => (u2 k b2).trans (fb.1 k b1), fun i b1 b2 => by rw [e442]; exact fb.2 i (by omega) (by omega) (by omega) (by omega)⟩⟩
    · unfold pu_eRr at a4 ⊢
      rw [e442]
      exact a4
    · rw [u1]
      funext j
      unfold pu_A0
      by_cases e : j = 4
      · subst e; rw [pu_upd_s]; exact pu_a0_z (by omega) (by omega)
      · rw [pu_upd_n e, pu_upd_n e]
    · rw [e442, fb.2 13 (by decide) (by decide) (by decide) (by decide), h13]
      exact pu_A0_v.2.2.1.symm)
  have hloop : ∀ X r22, pu_run B L wN hN (L + 1) X = Xf → pu_SR B L σ X.2.2 X.1 X.2.1 r22 → (X.1 = none → pu_AW X.2.2 wN hN) → pu_wp (tw_lp (fun (k24 : (tw_Sg) → Option (Int32 × tw_Sg)) (a23 : tw_Sg) =>
tw_bd (tw_P_X12_isGood a23) (fun r25 =>
tw_jn (fun (a26 : tw_Sg) => K a26) (fun (j27 : (tw_Sg) → Option (Int32 × tw_Sg)) =>
if r25 = 0 then (j27 a23)
else (tw_bd (tw_P_X12_ahead n a23) (fun r36 =>
if r36.1 = (-1 : Int32) then (j27 r36.2)
else (tw_bd (tw_P_X12_statement n r36.2) (fun r37 =>
k24 r37))))))) n r22) R := fun X0 r22 hX0 H0 W0 => by
    have hms : pu_mz B L r22 ≤ 601 := by
      cases hE : X0.1 with
      | none => have := (pu_mz0 (pu_SR_c H0 hE.symm)).1; omega
      | some e => have := pu_mz1 (pu_SR_c H0 hE.symm); omega
    refine pu_lp (J := fun x => ∃ f X, pu_run B L wN hN f X = Xf ∧ pu_SR B L σ X.2.2 X.1 X.2.1 x ∧ (X.1 = none → pu_AW X.2.2 wN hN ∧ L < f + X.2.1)) (m := fun x => pu_mz B L x) ?_ n _ (by show pu_mz B L r22 < n; omega) ⟨L + 1, X0, hX0, H0, fun z => ⟨W0 z, by omega⟩⟩
    clear hms hX0 H0 W0
    rintro k24 s ⟨f, X, hX, HX, hF⟩ hk24
    cases hE : X.1 with
    | some e =>
      rw [pu_run_e (fun z => by rw [hE] at z; cases z.1)] at hX
      subst hX
      exact pu_bde (pu_SR_g0 (pu_SR_c HX hE.symm)) (pu_jn0 (pu_ift rfl (hK s HX (fun z => (hF z).1))))
    | none =>
      obtain ⟨W, hf⟩ := hF hE
      refine pu_bde (pu_SR_g1 (pu_SR_c HX hE.symm)) (pu_jn0 (pu_iff pu_10 (pu_bd (pu_srH (pu_SR_c HX hE.symm) hn) (fun r36 hr => ?_))))
      obtain ⟨g1, g2, -, -⟩ := hr
      refine pu_if (fun c => ?_) (fun c => ?_) <;> rw [g1, pu_nb1_m1 hB] at c
      · rw [pu_run_e (fun z => c z.2)] at hX
        subst hX
        exact hK _ (pu_SR_c g2 hE) (fun z => (hF z).1)
      · have c := Classical.not_not.mp c
        cases f with
        | zero => omega
        | succ f =>
          rw [pu_run_s ⟨hE, c⟩] at hX
          refine pu_bd (pu_srStm g2 W hn) (fun r37 hr => hk24 _ ⟨f, _, hX, hr, fun z => ⟨pu_stm_AW hB W z, ?_⟩⟩ (pu_mz_lt (pu_SR_c HX hE.symm) hr (fun z => (pu_stm_p c z).1)))
          have : X.2.1 < (pu_stm B L wN hN X.2.1 X.2.2).2.1 := (pu_stm_p c z).1
          omega
  rw [ew, eh]
  refine pu_bd (hlay w' h') (fun u hu => pu_bd (pu_srS hu hn) (fun r22 hr => ?_))
  obtain ⟨H5, -⟩ := hr
  have H5 : pu_SR B L σ (pu_A0 w' h') (pu_eMap B L p0) (pu_nk B L 4 p0) r22 := H5
  cases hE : pu_eMap B L p0 with
  | some e =>
    refine hloop Xm r22 hXf ?_ (fun z => ?_)
    · rw [hXm, hE]
      exact pu_SR_any (pu_SR_c H5 hE.symm)
    · rw [hXm, hE] at z
      cases z
  | none =>
    have z2 : pu_eN B L (pu_eN B L (pu_fs none (pu_isW B L p0 5 = true) (-2) p0) (1 : Nat) (20 : Nat) (pu_nk B L 1 p0)) (1 : Nat) (20 : Nat) (pu_nk B L 2 p0) = none := (pu_fs0.mp hE).1
    obtain ⟨m1, m2, m3, m4⟩ := pu_eMap0 hE
    have e1 := v15 (pu_fs0.mp z2).1
    have e2 := v17 z2
    have ew' : w' = wN ∨ Int32.ofNat w' = Int32.ofNat wN := Or.inr (by
      rw [← ew, e1, hwN]
      exact pu_max1 m1 m2)
    have eh' : Int32.ofNat h' = Int32.ofNat hN := by
      rw [← eh, e2, hhN]
      exact pu_max1 m3 m4
    have eA : pu_A0 w' h' = pu_A0 wN hN := by
      have ew2 : Int32.ofNat w' = Int32.ofNat wN := by
        rcases ew' with rfl | z
        · rfl
        · exact z
      unfold pu_A0 pu_a0
      rw [ew2, eh']
    rw [eA] at H5
    refine hloop Xm r22 hXf ?_ (fun _ => ?_)
    · rw [hXm]
      exact H5
    · rw [hXm, hwN, hhN]
      exact (pu_A0_AW m1 m2 m3 m4).1
end RLD
