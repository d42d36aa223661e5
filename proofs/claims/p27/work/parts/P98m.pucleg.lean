/-! the class: a start, a bearing, a leg -/
section CLEG
variable {σ σ0 : tw_Sg} {B : Nat → Nat} {L p n w h q : Nat} {E : Option (Int32 × Nat)} {A A' : Nat → Int32} {Q : tw_Sg → Prop}
theorem pu_and {ρ : Type} {X : Option ρ} {P R : ρ → Prop} (h1 : pu_wp X P) (h2 : pu_wp X R) : pu_wp X (fun r => P r ∧ R r) := by
  obtain ⟨r, a, b⟩ := h1
  obtain ⟨r', a', b'⟩ := h2
  have : r = r' := Option.some.inj (a.symm.trans a')
  subst this
  exact ⟨r, a, b, b'⟩
theorem pu_hasGood {m : Nat} (W : pu_AQ A w h q) (e0 : σ 416 0 = Int32.ofNat q) (C : pu_CDp (pu_bk σ 403) A w q) (hm : m < 8) (hn : 2000 < n) : pu_wp (tw_P_X1_hasStart n 416 (σ 416 0) (Int32.ofNat m) σ) (fun r => r = 0 ↔ ∀ k, k < pu_ns A q → pu_v A (pu_cl q + 3 + k) ≠ m) := by
  obtain ⟨-, h4, ⟨-, f2, -, f4, -⟩, -⟩ := W
  have n9 : pu_ns A q < 9 := f2.2
  rw [e0]
  unfold tw_P_X1_hasStart
  refine pu_lt ?_
  refine pu_lp (J := fun t => ∃ i, i ≤ pu_ns A q ∧ t = Int32.ofNat i ∧ ∀ k, k < i → pu_v A (pu_cl q + 3 + k) ≠ m) (m := fun t => 200 - t.toNatClampNeg) ?_ n _ (by show 200 - _ < n; omega) ⟨0, by omega, rfl, fun k hk => absurd hk (Nat.not_lt_zero _)⟩
  rintro k3 ii ⟨i, hi, e1, hall⟩ hk3
  subst e1
  refine pu_bde (pu_get (th := 416 + 3) pu_l420 (by decide) h4) ?_
  rw [show σ (416 + 3 + 1) q = Int32.ofNat (pu_ns A q) from (show σ (416 + 3 + 1) q = A (pu_cl q + 1) from C.1).trans f2.1]
  refine pu_if (fun c => ?_) (fun c2 => ?_)
  · rw [pu_le (by omega) (by omega)] at c
    exact pu_ck rfl (pu_some ⟨fun _ k hk => hall k (by omega), fun _ => rfl⟩)
  rw [pu_le (by omega) (by omega)] at c2
  unfold tw_P_X1_startMark
  rw [show Int32.ofNat q * (8 : Int32) = Int32.ofNat (q * 8) from pu_mul q 8, pu_add, pu_get (th := 416 + 5) (N := 32) pu_l422 (by decide) (by omega)]
  obtain ⟨s1, -⟩ := f4 i (by omega)
  have ev : σ (416 + 5 + 1) (q * 8 + i) = Int32.ofNat (pu_v A (pu_cl q + 3 + i)) := by
    rw [show q * 8 + i = 8 * q + i from by omega]
    exact (C.2.2.1 i (by omega)).trans s1.1
  rw [ev]
  have s2 := s1.2
  refine pu_bde (a := Int32.ofNat (pu_v A (pu_cl q + 3 + i))) rfl (pu_if (fun c3 => ?_) (fun c3 => ?_)) <;> rw [pu_eq (by omega) (by omega)] at c3
  · refine pu_lt ?_
    have em : Int32.ofNat i + (1 : Int32) = Int32.ofNat (i + 1) := pu_add i 1
    rw [em]
    refine hk3 _ ⟨i + 1, by omega, rfl, fun k hk => ?_⟩ ?_
    · by_cases e : k = i
      · subst e; exact c3
      · exact hall k (by omega)
    · rw [pu_n (by omega), pu_n (by omega)]
      omega
  · exact pu_ck rfl (pu_some ⟨fun z => absurd z pu_10, fun z => absurd (Classical.not_not.mp c3) (z i (by omega))⟩)
theorem pu_dQ_m : ∀ b, pu_dQ A w h q b → ∀ m, m < 8 → b 6 m = pu_eS w (pu_mk A m) := fun b D m hm => D.1.2.2.2.1 m hm
theorem pu_dQ_q (W : pu_AQ A w h q) {b : tw_Sg} (D : pu_dQ A w h q b) : b 13 0 = Int32.ofNat q := (show b 13 0 = A 3 from D.1.1.2.2.2.2.2.1).trans W.1.2.2.1.1
theorem pu_scZ {K : Nat} (H : pu_SC B L w h σ0 (pu_dQ A w h q) E p σ) (W0 : E = none → pu_AQ A w h q) (w2 : w ≤ 20) (h2 : h ≤ 20) (S : pu_sb K σ) (hK : K ≤ 100) (hn : 2000 < n) : pu_wp (tw_P_X6_takeStart n σ) (fun t => pu_SC B L w h σ0 (pu_dQ (pu_qZ B A q p) w h q) (pu_eZ B L A q E p) (pu_nx B L p) t ∧ pu_sb (K + 1) t) := by
  have hB := pu_SC_B H
  unfold tw_P_X6_takeStart
  refine pu_lt (pu_bd (pu_scK (A := A) H w2 h2 pu_dQ_m (fun y m c hm e => pu_AQ_mk (W0 y) hm e) hn) (fun r2 hr => pu_lt ?_))
  obtain ⟨e1, H2, fa⟩ := hr
  have S2 : pu_sb K r2.2 := pu_sb_fr S (fa.1 416 (by decide)) (fa.1 420 (by decide))
  have hs : pu_wp (tw_P_X1_hasStart n 416 (r2.2 416 0) r2.1 r2.2) (fun r => pu_eK B L A E p = none → (r = 0 ↔ ∀ k, k < pu_ns A q → pu_v A (pu_cl q + 3 + k) ≠ B p - 97)) := by
    by_cases z : pu_eK B L A E p = none
    · obtain ⟨z1, z2⟩ := e1 z
      have D := H2.2.2.1 z
      have W := W0 (pu_fs0.mp (pu_fs0.mp z).1).1
      rw [z1]
      exact pu_cons (pu_hasGood W (pu_dQ_q W D) D.2.1 z2 hn) (fun r hr _ => hr)
    · exact pu_cons (pu_hasAny S2 hK hn) (fun r _ y => absurd y z)
  refine pu_bd hs (fun r4 h4' => ?_)
  refine pu_jn (R := fun t => pu_SC B L w h σ0 (pu_dQ A w h q) (pu_eZ B L A q E p) (pu_nx B L p) t ∧ pu_sb K t) (fun t ht => ?_) (fun f hf => ?_)
  rotate_left
  · refine pu_if (fun c => hf _ ⟨?_, S2⟩) (fun c => ?_)
    · have e : pu_eZ B L A q E p = pu_eK B L A E p := by
        unfold pu_eZ
        generalize pu_eK B L A E p = E1 at h4'
        cases E1 with
        | some e => rfl
        | none => exact pu_fs_y ((h4' rfl).mp c)
      rw [e]; exact H2
    · refine pu_bd (pu_scF (o := p) H2 (by decide) (fun z => (pu_SC_p H (pu_fs0.mp (pu_fs0.mp z).1).1).1)) (fun t ht => hf _ ⟨?_, pu_sb_fr S2 (ht.2.1 416 (by decide)) (ht.2.1 420 (by decide))⟩)
      have e : pu_eZ B L A q E p = pu_or (pu_eK B L A E p) (-4) p := by
        unfold pu_eZ
        generalize pu_eK B L A E p = E1 at h4'
        cases E1 with
        | some e => rfl
        | none => exact pu_fs_n (fun z => c ((h4' rfl).mpr z))
      rw [e]; exact ht.1
  obtain ⟨H3, S3⟩ := ht
  by_cases z : pu_eZ B L A q E p = none
  · have W := W0 (pu_fs0.mp (pu_fs0.mp (pu_fs0.mp z).1).1).1
    obtain ⟨n8, -, en, eo, es, ei, eh, en1⟩ := pu_Z_AQ hB W z
    obtain ⟨z1, -⟩ := e1 (pu_fs0.mp z).1
    have D := H3.2.2.1 z
    have hq4 := W.2.1
    have e0 : t 416 0 = Int32.ofNat q := pu_dQ_q W D
    have e420 : t 420 q = Int32.ofNat (pu_ns A q) := (show t 420 q = A (pu_cl q + 1) from D.2.1.1).trans W.2.2.1.2.1.1
    refine pu_bd (pu_and (pu_addAny (v := r2.1) S3) (R := fun u => u = tw_up (tw_up t 422 (8 * q + pu_ns A q) (Int32.ofNat (B p - 97))) 420 q (Int32.ofNat (pu_ns A q + 1))) ?_) (fun u hu => pu_some ⟨?_, hu.1.1⟩)
    · unfold tw_P_X1_addStart
      rw [e0, z1]
      refine pu_bde (pu_get (th := 416 + 3) pu_l420 (by decide) hq4) (pu_lt ?_)
      rw [show t (416 + 3 + 1) q = _ from e420, show Int32.ofNat q * (8 : Int32) = Int32.ofNat (q * 8) from pu_mul q 8, pu_add, show Int32.ofNat (pu_ns A q) + (1 : Int32) = Int32.ofNat (pu_ns A q + 1) from pu_add _ 1]
      refine pu_bde (pu_put (th := 416 + 5) (N := 32) pu_l422 (by decide) (by omega)) (pu_bde (pu_put (th := 416 + 3) pu_l420 (by decide) hq4) (pu_some ?_))
      rw [Nat.mul_comm q 8]
    · obtain ⟨-, hu⟩ := hu
      have u0 : ∀ k, k ≠ 420 → k ≠ 422 → u k = t k := fun k k1 k2 => by rw [hu, tw_up_n k1, tw_up_n k2]
      have u1 : u 420 = upd (t 420) q (Int32.ofNat (pu_ns A q + 1)) := by rw [hu, tw_up_s, tw_up_n (show 420 ≠ 422 by decide)]
      have u2 : u 422 = upd (t 422) (8 * q + pu_ns A q) (Int32.ofNat (B p - 97)) := by rw [hu, tw_up_n (show 422 ≠ 420 by decide), tw_up_s]
      refine pu_SC_set H3 ⟨by rw [u0 403 (by decide) (by decide)], by rw [u0 403 (by decide) (by decide)]⟩ (u0 400 (by decide) (by decide)) (fun k hk => u0 k (by omega) (by omega)) (fun _ => ?_)
      have hb : ∀ j i, ¬ (j = 17 ∧ i = q) → ¬ (j = 19 ∧ i = 8 * q + pu_ns A q) → pu_bk u 403 j i = pu_bk t 403 j i := fun j i a1 a2 => by
        show u (403 + j) i = t (403 + j) i
        by_cases c0 : j = 17
        · subst c0
          rw [show 403 + 17 = 420 from rfl, u1, pu_upd_n (by omega)]
        by_cases c1 : j = 19
        · subst c1
          rw [show 403 + 19 = 422 from rfl, u2, pu_upd_n (by omega)]
        rw [u0 (403 + j) (by omega) (by omega)]
      have el : pu_nl (pu_qZ B A q p) q = pu_nl A q := pu_v_cong (eh 2 (by omega))
      have l9 : pu_nl A q < 9 := W.2.2.1.2.2.1.2
      refine pu_dQ_part W eo D (fun j i a1 a2 => hb j i (by omega) (by omega)) ⟨?_, ?_, fun k hk => ?_, fun l hl => ?_⟩
      · show u 420 q = _
        rw [u1, pu_upd_s, en1]
      · rw [hb 21 q (by omega) (by omega), eh 2 (by omega)]
        exact D.2.1.2.1
      · rw [en] at hk
        by_cases e : k = pu_ns A q
        · subst e
          show u 422 _ = _
          rw [u2, pu_upd_s, ei]
        · rw [hb 19 _ (by omega) (by omega), es k (by omega)]
          exact D.2.1.2.2.1 k (by omega)
      · rw [el] at hl
        have eg : ∀ j, pu_qZ B A q p (pu_lg q l + j) = A (pu_lg q l + j) := fun j => by
          rw [show pu_lg q l + j = pu_cl q + (11 + 4 * l + j) from by unfold pu_lg pu_cl; omega]
          exact eh _ (by omega)
        have k0 : pu_kind (pu_qZ B A q p) q l = pu_kind A q l := pu_v_cong (eg 0)
        have k1 : pu_many (pu_qZ B A q p) q l = pu_many A q l := pu_v_cong (eg 1)
        have k2 : pu_give (pu_qZ B A q p) q l = pu_give A q l := pu_v_cong (eg 2)
        obtain ⟨c1, c2, c3, c4, c5⟩ := D.2.1.2.2.2 l hl
        refine ⟨?_, ?_, ?_, ?_, ?_⟩
        · rw [hb 23 _ (by omega) (by omega), c1]; exact (eg 0).symm
        · rw [hb 25 _ (by omega) (by omega), c2]; exact (eg 3).symm
        · rw [hb 27 _ (by omega) (by omega), c3]; unfold pu_few; rw [k0, k1, k2]
        · rw [hb 29 _ (by omega) (by omega), c4]; unfold pu_most; rw [k0, k1, k2]
        · rw [hb 31 _ (by omega) (by omega), c5]
          have g4 := (W.2.2.1.2.2.2.2 l hl).2.2.2
          unfold pu_goal
          rw [k0, k1]
          by_cases y : pu_kind A q l = 1
          · have m8 : pu_many A q l < 8 := (g4 y).1.2
            rw [if_pos y, if_pos y, pu_v_cong (eo (808 + pu_many A q l) (by unfold pu_cl; omega))]
          · rw [if_neg y, if_neg y]
  · refine pu_bd (pu_addAny S3) (fun u hu => pu_some ⟨pu_SC_set H3 ⟨by rw [hu.2 403 (by decide) (by decide)], by rw [hu.2 403 (by decide) (by decide)]⟩ (hu.2 400 (by decide) (by decide)) (fun k hk => hu.2 k (by omega) (by omega)) (fun y => absurd y z), hu.1⟩)
def pu_bg (B : Nat → Nat) (L p : Nat) : Nat := if pu_isW B L p 13 = true then 0 else (if pu_isW B L p 14 = true then 1 else (if pu_isW B L p 15 = true then 2 else (if pu_isW B L p 16 = true then 3 else (if pu_isW B L p 17 = true then 4 else (if pu_isW B L p 18 = true then 5 else (if pu_isW B L p 19 = true then 6 else (if pu_isW B L p 20 = true then 7 else 8)))))))
def pu_bgI (x : Nat) : Int32 := if x < 8 then Int32.ofNat x else -1
theorem pu_scG (H : pu_SC B L w h σ0 Q E p σ) (hn : 2000 < n) : pu_wp (tw_P_X6_takeBearing n σ) (fun r => (pu_fs E (pu_bg B L p < 8) (-2) p = none → r.1 = Int32.ofNat (pu_bg B L p)) ∧ pu_SC B L w h σ0 Q (pu_fs E (pu_bg B L p < 8) (-2) p) (pu_nx B L p) r.2 ∧ pu_fA σ r.2) := by
  obtain ⟨s, h1, h2⟩ := id H.1
  unfold tw_P_X6_takeBearing
  refine pu_bde (pu_cisW h1 (by decide) hn) ?_
  refine pu_jn (R := fun v => v = pu_bgI (pu_bg B L s)) (fun v hv => ?_) (fun g hg => ?_)
  rotate_left
  · refine pu_if (fun c0 => ?_) (fun c0 => hg _ ?_) <;> rw [pu_b1_0] at c0
    rotate_left
    · unfold pu_bg
      rw [if_pos (pu_bF c0)]
      rfl
    refine pu_bde (pu_cisW h1 (by decide) hn) ?_
    refine pu_if (fun c1 => ?_) (fun c1 => hg _ ?_) <;> rw [pu_b1_0] at c1
    rotate_left
    · unfold pu_bg
      rw [if_neg (show ¬ pu_isW B L s 13 = true by rw [c0]; decide), if_pos (pu_bF c1)]
      rfl
    refine pu_bde (pu_cisW h1 (by decide) hn) ?_
    refine pu_if (fun c2 => ?_) (fun c2 => hg _ ?_) <;> rw [pu_b1_0] at c2
    rotate_left
    · unfold pu_bg
      rw [if_neg (show ¬ pu_isW B L s 13 = true by rw [c0]; decide), if_neg (show ¬ pu_isW B L s 14 = true by rw [c1]; decide), if_pos (pu_bF c2)]
      rfl
    refine pu_bde (pu_cisW h1 (by decide) hn) ?_
    refine pu_if (fun c3 => ?_) (fun c3 => hg _ ?_) <;> rw [pu_b1_0] at c3
    rotate_left
    · unfold pu_bg
      rw [if_neg (show ¬ pu_isW B L s 13 = true by rw [c0]; decide), if_neg (show ¬ pu_isW B L s 14 = true by rw [c1]; decide), if_neg (show ¬ pu_isW B L s 15 = true by rw [c2]; decide), if_pos (pu_bF c3)]
      rfl
    refine pu_bde (pu_cisW h1 (by decide) hn) ?_
    refine pu_if (fun c4 => ?_) (fun c4 => hg _ ?_) <;> rw [pu_b1_0] at c4
    rotate_left
    · unfold pu_bg
      rw [if_neg (show ¬ pu_isW B L s 13 = true by rw [c0]; decide), if_neg (show ¬ pu_isW B L s 14 = true by rw [c1]; decide), if_neg (show ¬ pu_isW B L s 15 = true by rw [c2]; decide), if_neg (show ¬ pu_isW B L s 16 = true by rw [c3]; decide), if_pos (pu_bF c4)]
      rfl
    refine pu_bde (pu_cisW h1 (by decide) hn) ?_
    refine pu_if (fun c5 => ?_) (fun c5 => hg _ ?_) <;> rw [pu_b1_0] at c5
    rotate_left
    · unfold pu_bg
      rw [if_neg (show ¬ pu_isW B L s 13 = true by rw [c0]; decide), if_neg (show ¬ pu_isW B L s 14 = true by rw [c1]; decide), if_neg (show ¬ pu_isW B L s 15 = true by rw [c2]; decide), if_neg (show ¬ pu_isW B L s 16 = true by rw [c3]; decide), if_neg (show ¬ pu_isW B L s 17 = true by rw [c4]; decide), if_pos (pu_bF c5)]
      rfl
    refine pu_bde (pu_cisW h1 (by decide) hn) ?_
    refine pu_if (fun c6 => ?_) (fun c6 => hg _ ?_) <;> rw [pu_b1_0] at c6
    rotate_left
    · unfold pu_bg
      rw [if_neg (show ¬ pu_isW B L s 13 = true by rw [c0]; decide), if_neg (show ¬ pu_isW B L s 14 = true by rw [c1]; decide), if_neg (show ¬ pu_isW B L s 15 = true by rw [c2]; decide), if_neg (show ¬ pu_isW B L s 16 = true by rw [c3]; decide), if_neg (show ¬ pu_isW B L s 17 = true by rw [c4]; decide), if_neg (show ¬ pu_isW B L s 18 = true by rw [c5]; decide), if_pos (pu_bF c6)]
      rfl
    refine pu_bde (pu_cisW h1 (by decide) hn) ?_
    refine pu_if (fun c7 => ?_) (fun c7 => hg _ ?_) <;> rw [pu_b1_0] at c7
    rotate_left
    · unfold pu_bg
      rw [if_neg (show ¬ pu_isW B L s 13 = true by rw [c0]; decide), if_neg (show ¬ pu_isW B L s 14 = true by rw [c1]; decide), if_neg (show ¬ pu_isW B L s 15 = true by rw [c2]; decide), if_neg (show ¬ pu_isW B L s 16 = true by rw [c3]; decide), if_neg (show ¬ pu_isW B L s 17 = true by rw [c4]; decide), if_neg (show ¬ pu_isW B L s 18 = true by rw [c5]; decide), if_neg (show ¬ pu_isW B L s 19 = true by rw [c6]; decide), if_pos (pu_bF c7)]
      rfl
    refine hg _ ?_
    unfold pu_bg
    rw [if_neg (show ¬ pu_isW B L s 13 = true by rw [c0]; decide), if_neg (show ¬ pu_isW B L s 14 = true by rw [c1]; decide), if_neg (show ¬ pu_isW B L s 15 = true by rw [c2]; decide), if_neg (show ¬ pu_isW B L s 16 = true by rw [c3]; decide), if_neg (show ¬ pu_isW B L s 17 = true by rw [c4]; decide), if_neg (show ¬ pu_isW B L s 18 = true by rw [c5]; decide), if_neg (show ¬ pu_isW B L s 19 = true by rw [c6]; decide), if_neg (show ¬ pu_isW B L s 20 = true by rw [c7]; decide)]
    rfl
  subst hv
  refine pu_lt ?_
  refine pu_jn (R := fun t => pu_SC B L w h σ0 Q (pu_fs E (pu_bg B L p < 8) (-2) p) p t ∧ pu_fA σ t) (fun t ht => ?_) (fun f hf => ?_)
  · refine pu_bd (pu_scA ht.1 hn) (fun r hr => pu_some ⟨fun z => ?_, hr.1, pu_fA_trans ht.2 hr.2⟩)
    obtain ⟨z1, z2⟩ := pu_fs0.mp z
    rw [h2 z1]
    exact if_pos z2
  have h8 : (0 : Int32) ≤ pu_bgI (pu_bg B L s) ↔ pu_bg B L s < 8 := by
    unfold pu_bgI
    by_cases c : pu_bg B L s < 8
    · rw [if_pos c]
      exact ⟨fun _ => c, fun _ => (pu_le (a := 0) (by decide) (by omega)).mpr (Nat.zero_le _)⟩
    · rw [if_neg c]
      exact ⟨fun z => absurd z (by decide), fun z => absurd z c⟩
  refine pu_if (fun c => hf _ ⟨?_, pu_fA_refl⟩) (fun c => ?_) <;> rw [h8] at c
  · have e : pu_fs E (pu_bg B L p < 8) (-2) p = E := by
      cases E with
      | some e => rfl
      | none => have := h2 rfl; subst this; exact pu_fs_y c
    rw [e]; exact H
  · refine pu_bd (pu_scF (o := p) H (by decide) (fun z => (pu_SC_p H z).1)) (fun t ht => hf _ ⟨?_, ht.2⟩)
    have e : pu_fs E (pu_bg B L p < 8) (-2) p = pu_or E (-2) p := by
      cases E with
      | some e => rfl
      | none => have := h2 rfl; subst this; exact pu_fs_n c
    rw [e]; exact ht.1
def pu_la (B : Nat → Nat) (L p : Nat) : Bool := pu_isW B L p 9 || pu_isW B L p 10 || pu_isW B L p 11
theorem pu_scLA (H : pu_SC B L w h σ0 Q E p σ) (hn : 2000 < n) : ∃ b : Bool, tw_P_X6_isLegAhead n σ = some (pu_b1 b) ∧ (E = none → b = pu_la B L p) := by
  obtain ⟨s, h1, h2⟩ := id H.1
  refine ⟨pu_la B L s, ?_, fun z => by rw [h2 z]⟩
  unfold tw_P_X6_isLegAhead
  rw [pu_cisW (w := 9) h1 (by decide) hn, pu_cisW (w := 10) h1 (by decide) hn, pu_cisW (w := 11) h1 (by decide) hn]
  unfold pu_la
  cases pu_isW B L s 9 <;> cases pu_isW B L s 10 <;> cases pu_isW B L s 11 <;> rfl
end CLEG
