/-! the class: a leg -/
section CLG2
variable {σ σ0 : tw_Sg} {B : Nat → Nat} {L p n w h q : Nat} {E : Option (Int32 × Nat)} {A A' : Nat → Int32} {Q : tw_Sg → Prop}
def pu_lk (B : Nat → Nat) (L p : Nat) : Nat := if pu_isW B L p 9 = true then 0 else if pu_isW B L p 10 = true then 1 else 2
noncomputable def pu_l0 (A : Nat → Int32) (q : Nat) (E : Option (Int32 × Nat)) (p : Nat) : Option (Int32 × Nat) := pu_fs E (pu_nl A q ≠ 8) (-6) p
noncomputable def pu_l1 (B : Nat → Nat) (L : Nat) (A : Nat → Int32) (q κ : Nat) (E : Option (Int32 × Nat)) (p : Nat) : Option (Int32 × Nat) := if κ = 0 then pu_eN B L (pu_l0 A q E p) (0 : Nat) (30 : Nat) (pu_nx B L p) else if κ = 1 then pu_eK B L A (pu_l0 A q E p) (pu_nx B L p) else pu_l0 A q E p
def pu_p1 (B : Nat → Nat) (L κ p : Nat) : Nat := if κ = 2 then pu_nx B L p else pu_nx B L (pu_nx B L p)
def pu_m1 (B : Nat → Nat) (L κ p : Nat) : Nat := if κ = 0 then pu_num B L (pu_nx B L p) else if κ = 1 then B (pu_nx B L p) - 97 else 0
noncomputable def pu_l2 (B : Nat → Nat) (L : Nat) (A : Nat → Int32) (q κ : Nat) (E : Option (Int32 × Nat)) (p : Nat) : Option (Int32 × Nat) := pu_fs (pu_l1 B L A q κ E p) (pu_bg B L (pu_p1 B L κ p) < 8) (-2) (pu_p1 B L κ p)
def pu_p2 (B : Nat → Nat) (L κ p : Nat) : Nat := pu_nx B L (pu_p1 B L κ p)
noncomputable def pu_l3 (B : Nat → Nat) (L : Nat) (A : Nat → Int32) (q κ : Nat) (γ : Bool) (E : Option (Int32 × Nat)) (p : Nat) : Option (Int32 × Nat) := if γ = true then pu_eN B L (pu_l2 B L A q κ E p) (0 : Nat) (5 : Nat) (pu_nx B L (pu_p2 B L κ p)) else pu_l2 B L A q κ E p
def pu_p3 (B : Nat → Nat) (L κ : Nat) (γ : Bool) (p : Nat) : Nat := if γ = true then pu_nx B L (pu_nx B L (pu_p2 B L κ p)) else pu_p2 B L κ p
def pu_g3 (B : Nat → Nat) (L κ : Nat) (γ : Bool) (p : Nat) : Nat := if γ = true then pu_num B L (pu_nx B L (pu_p2 B L κ p)) else 0
def pu_gm (B : Nat → Nat) (L κ p : Nat) : Bool := decide (κ = 0) && pu_isW B L (pu_p2 B L κ p) 12
noncomputable def pu_eG (B : Nat → Nat) (L : Nat) (A : Nat → Int32) (q : Nat) (E : Option (Int32 × Nat)) (p : Nat) : Option (Int32 × Nat) := pu_l3 B L A q (pu_lk B L p) (pu_gm B L (pu_lk B L p) p) E p
def pu_pG (B : Nat → Nat) (L p : Nat) : Nat := pu_p3 B L (pu_lk B L p) (pu_gm B L (pu_lk B L p) p) p
def pu_aG (A : Nat → Int32) (q κ m g d : Nat) : Nat → Int32 := upd (upd (upd (upd (upd A (pu_lg q (pu_nl A q)) (Int32.ofNat κ)) (pu_lg q (pu_nl A q) + 1) (Int32.ofNat m)) (pu_lg q (pu_nl A q) + 2) (Int32.ofNat g)) (pu_lg q (pu_nl A q) + 3) (Int32.ofNat d)) (pu_cl q + 2) (Int32.ofNat (pu_nl A q + 1))
def pu_qG (B : Nat → Nat) (L : Nat) (A : Nat → Int32) (q p : Nat) : Nat → Int32 := pu_aG A q (pu_lk B L p) (pu_m1 B L (pu_lk B L p) p) (pu_g3 B L (pu_lk B L p) (pu_gm B L (pu_lk B L p) p) p) (pu_bg B L (pu_p1 B L (pu_lk B L p) p))
theorem pu_lk3 : pu_lk B L p < 3 := by
  unfold pu_lk
  split
  · decide
  · split <;> decide
theorem pu_aG_in {κ m g d : Nat} : pu_aG A q κ m g d (pu_lg q (pu_nl A q)) = Int32.ofNat κ ∧ pu_aG A q κ m g d (pu_lg q (pu_nl A q) + 1) = Int32.ofNat m ∧ pu_aG A q κ m g d (pu_lg q (pu_nl A q) + 2) = Int32.ofNat g ∧ pu_aG A q κ m g d (pu_lg q (pu_nl A q) + 3) = Int32.ofNat d ∧ pu_aG A q κ m g d (pu_cl q + 2) = Int32.ofNat (pu_nl A q + 1) := by
  have e : pu_cl q + 11 ≤ pu_lg q (pu_nl A q) := by unfold pu_lg pu_cl; omega
  unfold pu_aG
  refine ⟨?_, ?_, ?_, ?_, pu_upd_s⟩
  · rw [pu_upd_n (by omega), pu_upd_n (by omega), pu_upd_n (by omega), pu_upd_n (by omega), pu_upd_s]
  · rw [pu_upd_n (by omega), pu_upd_n (by omega), pu_upd_n (by omega), pu_upd_s]
  · rw [pu_upd_n (by omega), pu_upd_n (by omega), pu_upd_s]
  · rw [pu_upd_n (by omega), pu_upd_s]
theorem pu_aG_out {κ m g d j : Nat} (h1 : ¬ (pu_lg q (pu_nl A q) ≤ j ∧ j < pu_lg q (pu_nl A q) + 4)) (h2 : j ≠ pu_cl q + 2) : pu_aG A q κ m g d j = A j := by
  unfold pu_aG
  rw [pu_upd_n h2, pu_upd_n (by omega), pu_upd_n (by omega), pu_upd_n (by omega), pu_upd_n (by omega)]
theorem pu_l3_e {κ : Nat} {γ : Bool} {e : Int32 × Nat} (h : pu_l0 A q E p = some e) : pu_l3 B L A q κ γ E p = some e := by
  have h1 : pu_l1 B L A q κ E p = some e := by
    unfold pu_l1
    rw [h]
    split
    · rfl
    · split <;> rfl
  have h2 : pu_l2 B L A q κ E p = some e := by unfold pu_l2; rw [h1]; rfl
  unfold pu_l3
  rw [h2]
  split <;> rfl
theorem pu_l3_e2 {κ : Nat} {γ : Bool} {e : Int32 × Nat} (h2 : pu_l2 B L A q κ E p = some e) : pu_l3 B L A q κ γ E p = some e := by
  unfold pu_l3
  rw [h2]
  split <;> rfl
theorem pu_l3_0 {κ : Nat} {γ : Bool} (h : pu_l3 B L A q κ γ E p = none) : pu_l0 A q E p = none ∧ pu_l1 B L A q κ E p = none ∧ pu_l2 B L A q κ E p = none := by
  have h2 : pu_l2 B L A q κ E p = none := by
    cases e : pu_l2 B L A q κ E p with
    | none => rfl
    | some x => rw [pu_l3_e2 e] at h; cases h
  refine ⟨?_, (pu_fs0.mp h2).1, h2⟩
  cases e : pu_l0 A q E p with
  | none => rfl
  | some x => rw [pu_l3_e e] at h; cases h
/-- what a leg read without error is -/
theorem pu_G_AQ (hB : ∀ i, i < L → B i < 256) (W : pu_AQ A w h q) (h0 : pu_eG B L A q E p = none) : E = none ∧ pu_nl A q < 8 ∧ (pu_lk B L p = 0 → pu_m1 B L (pu_lk B L p) p ≤ 30) ∧ (pu_lk B L p = 1 → pu_m1 B L (pu_lk B L p) p < 8 ∧ pu_is A (808 + pu_m1 B L (pu_lk B L p) p) (w * h)) ∧ (pu_lk B L p = 2 → pu_m1 B L (pu_lk B L p) p = 0) ∧ pu_bg B L (pu_p1 B L (pu_lk B L p) p) < 8 ∧ pu_g3 B L (pu_lk B L p) (pu_gm B L (pu_lk B L p) p) p ≤ 5 ∧ (pu_lk B L p ≠ 0 → pu_g3 B L (pu_lk B L p) (pu_gm B L (pu_lk B L p) p) p = 0) ∧ pu_AQ (pu_qG B L A q p) w h q := by
  obtain ⟨a0, a1, a2⟩ := pu_l3_0 h0
  obtain ⟨hE, hn8⟩ := pu_fs0.mp a0
  have hbg := (pu_fs0.mp a2).2
  have n9 : pu_nl A q < 9 := W.2.2.1.2.2.1.2
  have hk3 := pu_lk3 (B := B) (L := L) (p := p)
  have hg5 : pu_g3 B L (pu_lk B L p) (pu_gm B L (pu_lk B L p) p) p ≤ 5 := by
    unfold pu_eG pu_l3 at h0
    unfold pu_g3
    by_cases c : pu_gm B L (pu_lk B L p) p = true
    · rw [if_pos c] at h0 ⊢
      have := (pu_fs0.mp h0).2.2.2
      omega
    · rw [if_neg c]; omega
  have hg0 : pu_lk B L p ≠ 0 → pu_g3 B L (pu_lk B L p) (pu_gm B L (pu_lk B L p) p) p = 0 := fun z => by
    unfold pu_g3 pu_gm
    rw [decide_eq_false z]
    rfl
  unfold pu_qG
  generalize pu_g3 B L (pu_lk B L p) (pu_gm B L (pu_lk B L p) p) p = g at hg5 hg0 ⊢
  have hm0 : pu_lk B L p = 0 → pu_m1 B L (pu_lk B L p) p ≤ 30 := fun z => by
    unfold pu_m1
    unfold pu_l1 at a1
    rw [if_pos z] at a1 ⊢
    have := (pu_fs0.mp a1).2.2.2
    omega
  have hm1 : pu_lk B L p = 1 → pu_m1 B L (pu_lk B L p) p < 8 ∧ pu_is A (808 + pu_m1 B L (pu_lk B L p) p) (w * h) := fun z => by
    unfold pu_m1
    unfold pu_l1 at a1
    rw [if_neg (by omega), if_pos z] at a1 ⊢
    obtain ⟨-, y⟩ := pu_eK0 hB W a1
    exact y
  have hm2 : pu_lk B L p = 2 → pu_m1 B L (pu_lk B L p) p = 0 := fun z => by
    unfold pu_m1
    rw [if_neg (by omega), if_neg (by omega)]
  generalize pu_bg B L (pu_p1 B L (pu_lk B L p) p) = d at hbg ⊢
  generalize pu_m1 B L (pu_lk B L p) p = m at hm0 hm1 hm2 ⊢
  generalize pu_lk B L p = κ at hk3 hg0 hm0 hm1 hm2 ⊢
  have n8 : pu_nl A q < 8 := by omega
  refine ⟨hE, n8, hm0, hm1, hm2, hbg, hg5, hg0, ?_⟩
  obtain ⟨i0, i1, i2, i3, i4⟩ := pu_aG_in (A := A) (q := q) (κ := κ) (m := m) (g := g) (d := d)
  have o : ∀ j, ¬ (pu_lg q (pu_nl A q) ≤ j ∧ j < pu_lg q (pu_nl A q) + 4) → j ≠ pu_cl q + 2 → pu_aG A q κ m g d j = A j := fun j z1 z2 => pu_aG_out z1 z2
  generalize pu_aG A q κ m g d = A' at i0 i1 i2 i3 i4 o ⊢
  have eL : pu_lg q (pu_nl A q) = pu_cl q + (11 + 4 * pu_nl A q) := by unfold pu_lg pu_cl; omega
  have eo : pu_oq A A' q := fun j hj => o j (by omega) (by omega)
  have en : pu_nl A' q = pu_nl A q + 1 := pu_v_of i4 (by omega)
  have es : ∀ j, j < 11 → j ≠ 2 → A' (pu_cl q + j) = A (pu_cl q + j) := fun j hj h2 => o _ (by omega) (by omega)
  have ens : pu_ns A' q = pu_ns A q := pu_v_cong (es 1 (by omega) (by omega))
  have hcl : 856 ≤ pu_cl q := by unfold pu_cl; omega
  have lo : ∀ j, j ≤ pu_cl q → A' j = A j := fun j hj => eo j (by omega)
  obtain ⟨f1, f2, f3, f4, f5⟩ := id W.2.2.1
  have ns9 : pu_ns A q < 9 := f2.2
  have est : ∀ k, k < 8 → A' (pu_cl q + 3 + k) = A (pu_cl q + 3 + k) := fun k hk => by
    rw [show pu_cl q + 3 + k = pu_cl q + (3 + k) from by omega]
    exact es _ (by omega) (by omega)
  refine pu_AQ_part W eo ⟨?_, pu_is_cong (es 1 (by omega) (by omega)) f2, pu_is_of i4 (by omega) (by decide), fun k hk => ?_, fun l hl => ?_⟩ (fun i j hij hj => ?_)
  · rw [show A' (pu_cl q) = A (pu_cl q) from lo _ (Nat.le_refl _)]; exact f1
  · rw [ens] at hk
    obtain ⟨s1, s2⟩ := f4 k hk
    refine ⟨pu_is_cong (est k (by omega)) s1, ?_⟩
    rw [pu_v_cong (est k (by omega))]
    exact pu_is_cong (lo _ (by have := s1.2; omega)) s2
  · rw [en] at hl
    by_cases e : l = pu_nl A q
    · subst e
      have k0 : pu_kind A' q (pu_nl A q) = κ := pu_v_of i0 (by omega)
      refine ⟨pu_is_of i0 hk3 (by decide), pu_is_of i3 hbg (by decide), fun z => ?_, fun z => ?_⟩
      · rw [k0] at z
        exact ⟨pu_is_of i1 (by have := hm0 z; omega) (by decide), pu_is_of i2 (by omega) (by decide)⟩
      · rw [k0] at z
        obtain ⟨m8, hmk⟩ := hm1 z
        have k1 : pu_many A' q (pu_nl A q) = m := pu_v_of i1 (by omega)
        rw [k1]
        exact ⟨pu_is_of i1 m8 (by decide), pu_is_cong (lo _ (by omega)) hmk⟩
    · have eg : ∀ j, j < 4 → A' (pu_lg q l + j) = A (pu_lg q l + j) := fun j hj => o _ (by unfold pu_lg; omega) (by unfold pu_lg pu_cl; omega)
      obtain ⟨g1, g2, g3, g4⟩ := f5 l (by omega)
      have k0 : pu_kind A' q l = pu_kind A q l := pu_v_cong (eg 0 (by decide))
      have k1 : pu_many A' q l = pu_many A q l := pu_v_cong (eg 1 (by decide))
      refine ⟨pu_is_cong (eg 0 (by decide)) g1, pu_is_cong (eg 3 (by decide)) g2, fun z => ?_, fun z => ?_⟩
      · rw [k0] at z
        exact ⟨pu_is_cong (eg 1 (by decide)) (g3 z).1, pu_is_cong (eg 2 (by decide)) (g3 z).2⟩
      · rw [k0] at z
        rw [k1]
        exact ⟨pu_is_cong (eg 1 (by decide)) (g4 z).1, pu_is_cong (lo _ (by have := (g4 z).1.2; have : pu_many A q l < 8 := this; omega)) (g4 z).2⟩
  · rw [ens] at hj
    rw [pu_v_cong (est i (by omega)), pu_v_cong (est j (by omega))]
    exact W.2.2.2.2 i j hij hj
theorem pu_cmax : ∀ v, v < 31 → ∀ g, g < 6 → (if (0 : Int32) < Int32.ofNat v - Int32.ofNat g then Int32.ofNat v - Int32.ofNat g else (0 : Int32)) = Int32.ofNat (v - g) := by decide +kernel
theorem pu_l424 : tw_ln (423 + 1) = 4 := by decide +kernel
theorem pu_l426 : tw_ln (425 + 1) = 32 := by decide +kernel
theorem pu_l428 : tw_ln (427 + 1) = 32 := by decide +kernel
theorem pu_l430 : tw_ln (429 + 1) = 32 := by decide +kernel
theorem pu_l432 : tw_ln (431 + 1) = 32 := by decide +kernel
theorem pu_l434 : tw_ln (433 + 1) = 32 := by decide +kernel
theorem pu_someG {α : Type} {e : α} {R P : α → Prop} (h : P e) (k : ∀ x, P x → R x) : pu_wp (some e) R := ⟨e, rfl, k e h⟩
theorem pu_scLeg (H : pu_SC B L w h σ0 (pu_dQ A w h q) E p σ) (W0 : E = none → pu_AQ A w h q) (w2 : w ≤ 20) (h2 : h ≤ 20) (hn : 2000 < n) : pu_wp (tw_P_X6_readLeg n σ) (fun t => pu_SC B L w h σ0 (pu_dQ (pu_qG B L A q p) w h q) (pu_eG B L A q E p) (pu_pG B L p) t ∧ t 416 = σ 416 ∧ t 420 = σ 420) := by
  have hB := pu_SC_B H
  have hn9 : E = none → pu_nl A q < 9 := fun z => (W0 z).2.2.1.2.2.1.2
  unfold tw_P_X6_readLeg
  have hg : ∃ v2, tw_P_X7_get 423 (σ 416 0) σ = some v2 ∧ (E = none → v2 = Int32.ofNat (pu_nl A q) ∧ σ 416 0 = Int32.ofNat q) := by
    by_cases z : E = none
    · have D := H.2.2.1 z
      have W := W0 z
      have hq4 := W.2.1
      have hnl : A (pu_cl q + 2) = Int32.ofNat (pu_nl A q) := W.2.2.1.2.2.1.1
      have e0 : σ 416 0 = Int32.ofNat q := pu_dQ_q W D
      refine ⟨_, by rw [e0]; exact pu_get pu_l424 (by decide) hq4, fun _ => ⟨?_, e0⟩⟩
      exact (show σ (423 + 1) q = A (pu_cl q + 2) from D.2.1.2.1).trans hnl
    · obtain ⟨v, hv⟩ := pu_get_any (σ := σ) (th := 423) (x := σ 416 0) (by rw [pu_l424]; decide)
      exact ⟨v, hv, fun y => absurd y z⟩
  obtain ⟨v2, hv2, hv2z⟩ := hg
  refine pu_bde hv2 (pu_lt (pu_jn (R := fun t => pu_SC B L w h σ0 (pu_dQ A w h q) (pu_l0 A q E p) p t ∧ pu_fA σ t) (fun t ht => ?_) (fun f hf => ?_)))
  rotate_left
  · refine pu_if (fun c => hf _ ⟨?_, pu_fA_refl⟩) (fun c => ?_)
    · have e : pu_l0 A q E p = E := by
        unfold pu_l0
        cases E with
        | some e => rfl
        | none =>
          have n9 := hn9 rfl
          rw [(hv2z rfl).1, show (8 : Int32) = Int32.ofNat 8 from rfl, pu_ltn (by omega) (by decide)] at c
          exact pu_fs_y (by omega)
      rw [e]; exact H
    · refine pu_bd (pu_scF (o := p) H (by decide) (fun z => (pu_SC_p H z).1)) (fun t ht => hf _ ⟨?_, ht.2⟩)
      have e : pu_l0 A q E p = pu_or E (-6) p := by
        unfold pu_l0
        cases E with
        | some e => rfl
        | none =>
          have n9 := hn9 rfl
          rw [(hv2z rfl).1, show (8 : Int32) = Int32.ofNat 8 from rfl, pu_ltn (by omega) (by decide)] at c
          exact pu_fs_n (by omega)
      rw [e]; exact ht.1
  obtain ⟨H1, fa1⟩ := ht
  have t416 : t 416 = σ 416 := fa1.1 416 (by decide)
  refine pu_lt ?_
  obtain ⟨b9, hb9, hz9⟩ := pu_scIs (k := 9) H1 (by decide) hn
  obtain ⟨b10, hb10, hz10⟩ := pu_scIs (k := 10) H1 (by decide) hn
  refine pu_bde hb9 (pu_jn (R := fun a => ∃ κ, κ < 3 ∧ a = Int32.ofNat κ ∧ (pu_l0 A q E p = none → κ = pu_lk B L p)) (fun a ha => ?_) (fun f hf => ?_))
  rotate_left
  · refine pu_if (fun c => ?_) (fun c => ?_) <;> rw [pu_b1_0] at c
    · refine pu_bde hb10 (pu_if (fun c2 => ?_) (fun c2 => ?_)) <;> rw [pu_b1_0] at c2
      · refine hf _ ⟨2, by decide, rfl, fun z => ?_⟩
        unfold pu_lk
        rw [← hz9 z, ← hz10 z, c, c2]
        rfl
      · refine hf _ ⟨1, by decide, rfl, fun z => ?_⟩
        unfold pu_lk
        rw [← hz9 z, ← hz10 z, c, pu_bF c2]
        rfl
    · refine hf _ ⟨0, by decide, rfl, fun z => ?_⟩
      unfold pu_lk
      rw [← hz9 z, pu_bF c]
      rfl
  obtain ⟨κ, hκ, ea, hκz⟩ := ha
  subst ea
  refine pu_lt (pu_bd (pu_scA H1 hn) (fun r10 hr => ?_))
  obtain ⟨H2, fa2⟩ := hr
  have ek0 : Int32.ofNat κ = 0 ↔ κ = 0 := pu_eq (b := 0) (by omega) (by decide)
  have ek1 : Int32.ofNat κ = 1 ↔ κ = 1 := pu_eq (b := 1) (by omega) (by decide)
  refine pu_jn (R := fun a : Int32 × tw_Sg => pu_SC B L w h σ0 (pu_dQ A w h q) (if κ = 0 then pu_eN B L (pu_l0 A q E p) (0 : Nat) (30 : Nat) (pu_nx B L p) else pu_l0 A q E p) (if κ = 0 then pu_nx B L (pu_nx B L p) else pu_nx B L p) a.2 ∧ pu_fA σ a.2 ∧ ∃ v, v ≤ 30 ∧ a.1 = Int32.ofNat v ∧ (κ ≠ 0 → v = 0) ∧ (κ = 0 → pu_eN B L (pu_l0 A q E p) (0 : Nat) (30 : Nat) (pu_nx B L p) = none → v = pu_num B L (pu_nx B L p))) (fun a11 ha => ?_) (fun f hf => ?_)
  rotate_left
  · refine pu_if (fun c => ?_) (fun c => ?_) <;> rw [ek0] at c
    · exact hf _ ⟨by rw [if_neg c, if_neg c]; exact H2, pu_fA_trans fa1 fa2, 0, by omega, rfl, fun _ => rfl, fun z => absurd z c⟩
    · have c := Classical.not_not.mp c
      refine pu_bd (pu_scN (a := 0) (b := 30) (lo' := 0) H2 rfl rfl (by decide) (by decide) (fun _ => rfl) hn) (fun r hr => hf _ ?_)
      obtain ⟨⟨v, g1, -, g2, g3⟩, g4, g5⟩ := hr
      exact ⟨by rw [if_pos c, if_pos c]; exact g4, pu_fA_trans (pu_fA_trans fa1 fa2) g5, v, g2, g1, fun z => absurd c z, fun _ z => g3 z⟩
  obtain ⟨H3, fa3, v, hv30, ev, hv0, hvn⟩ := ha
  refine pu_lt ?_
  rw [ev]
  refine pu_jn (R := fun a : Int32 × tw_Sg => pu_SC B L w h σ0 (pu_dQ A w h q) (pu_l1 B L A q κ E p) (pu_p1 B L κ p) a.2 ∧ pu_fA σ a.2 ∧ (κ ≠ 1 → a.1 = 0) ∧ (κ = 1 → pu_l1 B L A q κ E p = none → a.1 = pu_eS w (pu_mk A (B (pu_nx B L p) - 97)))) (fun a14 ha => ?_) (fun f hf => ?_)
  rotate_left
  · refine pu_if (fun c => ?_) (fun c => ?_) <;> rw [ek1] at c
    · refine hf _ ⟨?_, fa3, fun _ => rfl, fun z => absurd z c⟩
      unfold pu_l1 pu_p1
      by_cases c0 : κ = 0
      · subst c0; exact H3
      · have : κ = 2 := by omega
        subst this
        exact H3
    · have c := Classical.not_not.mp c
      subst c
      refine pu_bd (pu_scK (A := A) H3 w2 h2 pu_dQ_m (fun y m c hm e => pu_AQ_mk (W0 (pu_fs0.mp y).1) hm e) hn) (fun r hr => ?_)
      obtain ⟨g1, g2, g3⟩ := hr
      have hget : ∃ x, tw_P_X7_get 408 r.1 r.2 = some x ∧ (pu_l1 B L A q 1 E p = none → x = pu_eS w (pu_mk A (B (pu_nx B L p) - 97))) := by
        by_cases z : pu_l1 B L A q 1 E p = none
        · obtain ⟨y1, y2⟩ := g1 z
          rw [y1]
          exact ⟨_, pu_get (th := 408) pu_l409 (by decide) y2, fun _ => (g2.2.2.1 z).1.2.2.2.1 _ y2⟩
        · obtain ⟨x, hx⟩ := pu_get_any (σ := r.2) (th := 408) (x := r.1) (by rw [pu_l409]; decide)
          exact ⟨x, hx, fun y => absurd y z⟩
      obtain ⟨x, hx, hxz⟩ := hget
      exact pu_bde hx (hf _ ⟨g2, pu_fA_trans fa3 g3, fun z => absurd rfl z, fun _ z => hxz z⟩)
  obtain ⟨H4, fa4, h16, h16z⟩ := ha
  refine pu_lt (pu_bd (pu_scG H4 hn) (fun r17 hr => pu_lt (pu_lt ?_)))
  obtain ⟨e17, H5, fa5⟩ := hr
  have fa6 := pu_fA_trans fa4 fa5
  refine pu_jn (R := fun a : Int32 × tw_Sg => ∃ γ : Bool, (pu_l2 B L A q κ E p = none → γ = pu_gm B L κ p) ∧ pu_SC B L w h σ0 (pu_dQ A w h q) (pu_l3 B L A q κ γ E p) (pu_p3 B L κ γ p) a.2 ∧ pu_fA σ a.2 ∧ ∃ g, g ≤ 5 ∧ a.1 = Int32.ofNat g ∧ (κ ≠ 0 → g = 0) ∧ (pu_l3 B L A q κ γ E p = none → g = pu_g3 B L κ γ p)) (fun a20 ha => ?_) (fun f hf => ?_)
  rotate_left
  · refine pu_if (fun c => ?_) (fun c => ?_) <;> rw [ek0] at c
    · refine hf _ ⟨false, fun _ => ?_, H5, fa6, 0, by omega, rfl, fun _ => rfl, fun _ => rfl⟩
      unfold pu_gm
      rw [decide_eq_false c]
      rfl
    · have c := Classical.not_not.mp c
      subst c
      obtain ⟨b12, hb12, hz12⟩ := pu_scIs (k := 12) H5 (by decide) hn
      have hgm : pu_l2 B L A q 0 E p = none → b12 = pu_gm B L 0 p := fun z => by
        rw [hz12 z]
        rfl
      refine pu_bde hb12 (pu_if (fun c => ?_) (fun c => ?_)) <;> rw [pu_b1_0] at c
      · subst c
        exact hf _ ⟨false, hgm, H5, fa6, 0, by omega, rfl, fun z => absurd rfl z, fun _ => rfl⟩
      · have c := pu_bF c
        subst c
        refine pu_bd (pu_scA H5 hn) (fun r31 hr => ?_)
        obtain ⟨H6, fa7⟩ := hr
        refine pu_bd (pu_scN (a := 0) (b := 5) (lo' := 0) H6 rfl rfl (by decide) (by decide) (fun _ => rfl) hn) (fun r hr => pu_lt (hf _ ?_))
        obtain ⟨⟨g, g1, -, g2, g3⟩, g4, g5⟩ := hr
        exact ⟨true, hgm, g4, pu_fA_trans fa6 (pu_fA_trans fa7 g5), g, g2, g1, fun z => absurd rfl z, fun z => g3 z⟩
  obtain ⟨γ, hγ, H7, fa8, g, hg5, eg, hg0, hgz⟩ := ha
  have hEG : pu_l3 B L A q κ γ E p = pu_eG B L A q E p := by
    unfold pu_eG
    cases e0 : pu_l0 A q E p with
    | some e => rw [pu_l3_e e0, pu_l3_e e0]
    | none =>
      have := hκz e0
      subst this
      cases e2 : pu_l2 B L A q (pu_lk B L p) E p with
      | some e => rw [pu_l3_e2 e2, pu_l3_e2 e2]
      | none => rw [hγ e2]
  have hK : pu_eG B L A q E p = none → κ = pu_lk B L p ∧ γ = pu_gm B L (pu_lk B L p) p := fun z => by
    rw [← hEG] at z
    obtain ⟨z0, z1, z2⟩ := pu_l3_0 z
    have e := hκz z0
    refine ⟨e, ?_⟩
    rw [← e]
    exact hγ z2
  have H8 : pu_SC B L w h σ0 (pu_dQ A w h q) (pu_eG B L A q E p) (pu_pG B L p) a20.2 := by
    rw [← hEG]
    refine pu_SC_e H7 (fun z => ?_)
    rw [hEG] at z
    obtain ⟨z1, z2⟩ := hK z
    unfold pu_pG
    rw [z1, z2]
  rw [eg, pu_cmax v (by omega) g (by omega)]
  have s416 : a20.2 416 = σ 416 := fa8.1 416 (by decide)
  have s420 : a20.2 420 = σ 420 := fa8.1 420 (by decide)
  by_cases z : pu_eG B L A q E p = none
  · have W := W0 (pu_fs0.mp (pu_l3_0 z).1).1
    have hq4 := W.2.1
    obtain ⟨hE, n8, gm0, gm1, gm2, gbg, gg5, gg0, -⟩ := pu_G_AQ hB W z
    obtain ⟨hk, hγ2⟩ := hK z
    subst hk
    subst hγ2
    obtain ⟨z0, z1, z2⟩ := pu_l3_0 z
    have D := H8.2.2.1 z
    obtain ⟨e2, e0⟩ := hv2z hE
    have e17' := e17 z2
    have eg3 := hgz z
    have hk3 := hκ
    have ev0 : pu_lk B L p = 0 → v = pu_m1 B L (pu_lk B L p) p := fun y => by
      have y1 := z1
      unfold pu_l1 at y1
      rw [if_pos y] at y1
      rw [hvn y y1]
      unfold pu_m1
      rw [if_pos y]
    have eV5 : t 416 0 * (8 : Int32) + v2 = Int32.ofNat (8 * q + pu_nl A q) := by
      rw [t416, e0, e2, show Int32.ofNat q * (8 : Int32) = Int32.ofNat (q * 8) from pu_mul q 8, pu_add, Nat.mul_comm q 8]
    have hI : 8 * q + pu_nl A q < 32 := by omega
    rw [eV5, e17']
    have h16' : a14.1 = pu_eS w (if pu_lk B L p = 1 then pu_mk A (pu_m1 B L (pu_lk B L p) p) else none) := by
      by_cases y : pu_lk B L p = 1
      · rw [if_pos y, h16z y z1]
        have : pu_m1 B L (pu_lk B L p) p = B (pu_nx B L p) - 97 := by
          unfold pu_m1
          rw [if_neg (by omega), if_pos y]
        rw [this]
      · rw [if_neg y, h16 y]
        rfl
    rw [h16']
    unfold pu_qG
    rw [← eg3]
    rw [← eg3] at gg5 gg0
    generalize pu_bg B L (pu_p1 B L (pu_lk B L p) p) = d at gbg ⊢
    generalize pu_m1 B L (pu_lk B L p) p = m at gm0 gm1 gm2 ev0 ⊢
    clear hk3 e17' h16' h16z h16 hvn hgz hκz eg3 hγ hK hEG
    have hfew : v - g = if pu_lk B L p = 0 then m - g else 0 := by
      by_cases y : pu_lk B L p = 0
      · rw [if_pos y, ev0 y]
      · rw [if_neg y, hv0 y, Nat.zero_sub]
    refine pu_bde (pu_put (th := 425) pu_l426 (by decide) hI) ?_
    refine pu_bde (pu_put (th := 427) pu_l428 (by decide) hI) ?_
    refine pu_bde (pu_put (th := 433) pu_l434 (by decide) hI) ?_
    refine pu_bde (pu_put (th := 429) pu_l430 (by decide) hI) ?_
    refine pu_jn (R := fun a => a = Int32.ofNat (if pu_lk B L p = 0 then m + g else if pu_lk B L p = 1 then 60 else 59)) (fun a26 ha => ?_) (fun f hf => ?_)
    rotate_left
    · refine pu_if (fun c => ?_) (fun c => ?_) <;> rw [ek0] at c
      · refine pu_if (fun c2 => hf _ ?_) (fun c2 => hf _ ?_) <;> rw [ek1] at c2
        · rw [if_neg c, if_neg c2]; rfl
        · rw [if_neg c, if_pos (Classical.not_not.mp c2)]; rfl
      · have c := Classical.not_not.mp c
        refine hf _ ?_
        rw [if_pos c, ← ev0 c]
        exact pu_add v g
    have ha : a26 = _ := ha
    subst ha
    refine pu_bde (pu_put (th := 431) pu_l432 (by decide) hI) ?_
    rw [tw_up_n (show 416 ≠ 431 + 1 by decide), tw_up_n (show 416 ≠ 429 + 1 by decide), tw_up_n (show 416 ≠ 433 + 1 by decide), tw_up_n (show 416 ≠ 427 + 1 by decide), tw_up_n (show 416 ≠ 425 + 1 by decide), s416, e0, e2, show Int32.ofNat (pu_nl A q) + (1 : Int32) = Int32.ofNat (pu_nl A q + 1) from pu_add _ 1]
    refine pu_bde (pu_put (th := 423) pu_l424 (by decide) hq4) ?_
    refine pu_someG (P := fun t => (∀ k, k ≠ 424 → k ≠ 426 → k ≠ 428 → k ≠ 430 → k ≠ 432 → k ≠ 434 → t k = a20.2 k) ∧ t 424 = upd (a20.2 424) q (Int32.ofNat (pu_nl A q + 1)) ∧ t 426 = upd (a20.2 426) (8 * q + pu_nl A q) (Int32.ofNat (pu_lk B L p)) ∧ t 428 = upd (a20.2 428) (8 * q + pu_nl A q) (Int32.ofNat d) ∧ t 430 = upd (a20.2 430) (8 * q + pu_nl A q) (Int32.ofNat (v - g)) ∧ t 432 = upd (a20.2 432) (8 * q + pu_nl A q) (Int32.ofNat (if pu_lk B L p = 0 then m + g else if pu_lk B L p = 1 then 60 else 59)) ∧ t 434 = upd (a20.2 434) (8 * q + pu_nl A q) (pu_eS w (if pu_lk B L p = 1 then pu_mk A m else none))) ⟨fun k k1 k2 k3 k4 k5 k6 => ?_, ?_, ?_, ?_, ?_, ?_, ?_⟩ (fun u hu => ?_)
    · rw [tw_up_n (show k ≠ 423 + 1 from k1), tw_up_n (show k ≠ 431 + 1 from k5), tw_up_n (show k ≠ 429 + 1 from k4), tw_up_n (show k ≠ 433 + 1 from k6), tw_up_n (show k ≠ 427 + 1 from k3), tw_up_n (show k ≠ 425 + 1 from k2)]
    · rw [show 424 = 423 + 1 from rfl, tw_up_s, tw_up_n (show 423 + 1 ≠ 431 + 1 by decide), tw_up_n (show 423 + 1 ≠ 429 + 1 by decide), tw_up_n (show 423 + 1 ≠ 433 + 1 by decide), tw_up_n (show 423 + 1 ≠ 427 + 1 by decide), tw_up_n (show 423 + 1 ≠ 425 + 1 by decide)]
    · rw [show 426 = 425 + 1 from rfl, tw_up_n (show 425 + 1 ≠ 423 + 1 by decide), tw_up_n (show 425 + 1 ≠ 431 + 1 by decide), tw_up_n (show 425 + 1 ≠ 429 + 1 by decide), tw_up_n (show 425 + 1 ≠ 433 + 1 by decide), tw_up_n (show 425 + 1 ≠ 427 + 1 by decide), tw_up_s]
    · rw [show 428 = 427 + 1 from rfl, tw_up_n (show 427 + 1 ≠ 423 + 1 by decide), tw_up_n (show 427 + 1 ≠ 431 + 1 by decide), tw_up_n (show 427 + 1 ≠ 429 + 1 by decide), tw_up_n (show 427 + 1 ≠ 433 + 1 by decide), tw_up_s, tw_up_n (show 427 + 1 ≠ 425 + 1 by decide)]
    · rw [show 430 = 429 + 1 from rfl, tw_up_n (show 429 + 1 ≠ 423 + 1 by decide), tw_up_n (show 429 + 1 ≠ 431 + 1 by decide), tw_up_s, tw_up_n (show 429 + 1 ≠ 433 + 1 by decide), tw_up_n (show 429 + 1 ≠ 427 + 1 by decide), tw_up_n (show 429 + 1 ≠ 425 + 1 by decide)]
    · rw [show 432 = 431 + 1 from rfl, tw_up_n (show 431 + 1 ≠ 423 + 1 by decide), tw_up_s, tw_up_n (show 431 + 1 ≠ 429 + 1 by decide), tw_up_n (show 431 + 1 ≠ 433 + 1 by decide), tw_up_n (show 431 + 1 ≠ 427 + 1 by decide), tw_up_n (show 431 + 1 ≠ 425 + 1 by decide)]
    · rw [show 434 = 433 + 1 from rfl, tw_up_n (show 433 + 1 ≠ 423 + 1 by decide), tw_up_n (show 433 + 1 ≠ 431 + 1 by decide), tw_up_n (show 433 + 1 ≠ 429 + 1 by decide), tw_up_s, tw_up_n (show 433 + 1 ≠ 427 + 1 by decide), tw_up_n (show 433 + 1 ≠ 425 + 1 by decide)]
    obtain ⟨u0, u21, u23, u25, u27, u29, u31⟩ := hu
    refine ⟨pu_SC_set H8 ⟨by rw [u0 403 (by decide) (by decide) (by decide) (by decide) (by decide) (by decide)], by rw [u0 403 (by decide) (by decide) (by decide) (by decide) (by decide) (by decide)]⟩ (u0 400 (by decide) (by decide) (by decide) (by decide) (by decide) (by decide)) (fun k hk => u0 k (by omega) (by omega) (by omega) (by omega) (by omega) (by omega)) (fun _ => ?_), (u0 416 (by decide) (by decide) (by decide) (by decide) (by decide) (by decide)).trans s416, (u0 420 (by decide) (by decide) (by decide) (by decide) (by decide) (by decide)).trans s420⟩
    obtain ⟨i0, i1, i2, i3, i4⟩ := pu_aG_in (A := A) (q := q) (κ := pu_lk B L p) (m := m) (g := g) (d := d)
    have o : ∀ j, ¬ (pu_lg q (pu_nl A q) ≤ j ∧ j < pu_lg q (pu_nl A q) + 4) → j ≠ pu_cl q + 2 → pu_aG A q (pu_lk B L p) m g d j = A j := fun j z1 z2 => pu_aG_out z1 z2
    generalize pu_aG A q (pu_lk B L p) m g d = A' at i0 i1 i2 i3 i4 o ⊢
    generalize pu_lk B L p = κ at *
    have eL : pu_lg q (pu_nl A q) = pu_cl q + (11 + 4 * pu_nl A q) := by unfold pu_lg pu_cl; omega
    have eo : pu_oq A A' q := fun j hj => o j (by omega) (by omega)
    have en : pu_nl A' q = pu_nl A q + 1 := pu_v_of i4 (by omega)
    have es : ∀ j, j < 11 → j ≠ 2 → A' (pu_cl q + j) = A (pu_cl q + j) := fun j hj h2 => o _ (by omega) (by omega)
    have ens : pu_ns A' q = pu_ns A q := pu_v_cong (es 1 (by omega) (by omega))
    have ns9 : pu_ns A q < 9 := W.2.2.1.2.1.2
    have hcl : 856 ≤ pu_cl q := by unfold pu_cl; omega
    have hb : ∀ j i, ¬ (j = 21 ∧ i = q) → ¬ ((j = 23 ∨ j = 25 ∨ j = 27 ∨ j = 29 ∨ j = 31) ∧ i = 8 * q + pu_nl A q) → pu_bk u 403 j i = pu_bk a20.2 403 j i := fun j i a1 a2 => by
      show u (403 + j) i = a20.2 (403 + j) i
      by_cases c0 : j = 21
      · subst c0
        rw [show 403 + 21 = 424 from rfl, u21, pu_upd_n (by omega)]
      by_cases c1 : j = 23
      · subst c1
        rw [show 403 + 23 = 426 from rfl, u23, pu_upd_n (by omega)]
      by_cases c2 : j = 25
      · subst c2
        rw [show 403 + 25 = 428 from rfl, u25, pu_upd_n (by omega)]
      by_cases c3 : j = 27
      · subst c3
        rw [show 403 + 27 = 430 from rfl, u27, pu_upd_n (by omega)]
      by_cases c4 : j = 29
      · subst c4
        rw [show 403 + 29 = 432 from rfl, u29, pu_upd_n (by omega)]
      by_cases c5 : j = 31
      · subst c5
        rw [show 403 + 31 = 434 from rfl, u31, pu_upd_n (by omega)]
      rw [u0 (403 + j) (by omega) (by omega) (by omega) (by omega) (by omega) (by omega)]
    refine pu_dQ_part W eo D (fun j i a1 a2 => hb j i (by omega) (by omega)) ⟨?_, ?_, fun k hk => ?_, fun l hl => ?_⟩
    · rw [hb 17 q (by omega) (by omega), es 1 (by omega) (by omega)]
      exact D.2.1.1
    · show u 424 q = _
      rw [u21, pu_upd_s, i4]
    · rw [ens] at hk
      rw [hb 19 _ (by omega) (by omega), show pu_cl q + 3 + k = pu_cl q + (3 + k) from by omega, es _ (by omega) (by omega), show pu_cl q + (3 + k) = pu_cl q + 3 + k from by omega]
      exact D.2.1.2.2.1 k hk
    · rw [en] at hl
      by_cases e : l = pu_nl A q
      · subst e
        have k0 : pu_kind A' q (pu_nl A q) = κ := pu_v_of i0 (by omega)
        have k1 : κ ≠ 2 → pu_many A' q (pu_nl A q) = m := fun y => pu_v_of i1 (by
          by_cases y0 : κ = 0
          · have := gm0 y0; omega
          · have := (gm1 (by omega)).1; omega)
        have k2 : pu_give A' q (pu_nl A q) = g := pu_v_of i2 (by omega)
        refine ⟨?_, ?_, ?_, ?_, ?_⟩
        · show u 426 _ = _
          rw [u23, pu_upd_s, i0]
        · show u 428 _ = _
          rw [u25, pu_upd_s, i3]
        · show u 430 _ = _
          rw [u27, pu_upd_s, hfew]
          unfold pu_few
          rw [k0, k2]
          by_cases y : κ = 0
          · rw [if_pos y, if_pos y, k1 (by omega)]
          · rw [if_neg y, if_neg y]
        · show u 432 _ = _
          rw [u29, pu_upd_s]
          unfold pu_most
          rw [k0, k2]
          by_cases y : κ = 0
          · rw [if_pos y, if_pos y, k1 (by omega)]
          · rw [if_neg y, if_neg y]
        · show u 434 _ = _
          rw [u31, pu_upd_s]
          unfold pu_goal
          rw [k0]
          by_cases y : κ = 1
          · obtain ⟨m8, hmk⟩ := gm1 y
            rw [if_pos y, if_pos y, k1 (by omega), pu_v_cong (eo (808 + m) (by omega))]
            unfold pu_mk
            rw [if_neg (pu_is_n1 hmk (by have := pu_wh w2 h2; omega))]
          · rw [if_neg y, if_neg y]
      · have eg : ∀ j, j < 4 → A' (pu_lg q l + j) = A (pu_lg q l + j) := fun j hj => o _ (by unfold pu_lg; omega) (by unfold pu_lg pu_cl; omega)
        have k0 : pu_kind A' q l = pu_kind A q l := pu_v_cong (eg 0 (by decide))
        have k1 : pu_many A' q l = pu_many A q l := pu_v_cong (eg 1 (by decide))
        have k2 : pu_give A' q l = pu_give A q l := pu_v_cong (eg 2 (by decide))
        obtain ⟨c1, c2, c3, c4, c5⟩ := D.2.1.2.2.2 l (by omega)
        refine ⟨?_, ?_, ?_, ?_, ?_⟩
        · rw [hb 23 _ (by omega) (by omega), c1]; exact (eg 0 (by decide)).symm
        · rw [hb 25 _ (by omega) (by omega), c2]; exact (eg 3 (by decide)).symm
        · rw [hb 27 _ (by omega) (by omega), c3]; unfold pu_few; rw [k0, k1, k2]
        · rw [hb 29 _ (by omega) (by omega), c4]; unfold pu_most; rw [k0, k1, k2]
        · rw [hb 31 _ (by omega) (by omega), c5]
          have g4 := (W.2.2.1.2.2.2.2 l (by omega)).2.2.2
          unfold pu_goal
          rw [k0, k1]
          by_cases y : pu_kind A q l = 1
          · have m8 : pu_many A q l < 8 := (g4 y).1.2
            rw [if_pos y, if_pos y, pu_v_cong (eo (808 + pu_many A q l) (by omega))]
          · rw [if_neg y, if_neg y]
  · obtain ⟨t1, a1, c1⟩ := pu_put_any (σ := a20.2) (th := 425) (x := t 416 0 * (8 : Int32) + v2) (v := Int32.ofNat κ) (by rw [pu_l426]; decide)
    refine pu_bde a1 ?_
    obtain ⟨t2, a2, c2⟩ := pu_put_any (σ := t1) (th := 427) (x := t 416 0 * (8 : Int32) + v2) (v := r17.1) (by rw [pu_l428]; decide)
    refine pu_bde a2 ?_
    obtain ⟨t3, a3, c3⟩ := pu_put_any (σ := t2) (th := 433) (x := t 416 0 * (8 : Int32) + v2) (v := a14.1) (by rw [pu_l434]; decide)
    refine pu_bde a3 ?_
    obtain ⟨t4, a4, c4⟩ := pu_put_any (σ := t3) (th := 429) (x := t 416 0 * (8 : Int32) + v2) (v := Int32.ofNat (v - g)) (by rw [pu_l430]; decide)
    refine pu_bde a4 (pu_jn (R := fun _ => True) (fun a26 _ => ?_) (fun f hf => ?_))
    · obtain ⟨t5, a5, c5⟩ := pu_put_any (σ := t4) (th := 431) (x := t 416 0 * (8 : Int32) + v2) (v := a26) (by rw [pu_l432]; decide)
      refine pu_bde a5 ?_
      obtain ⟨t6, a6, c6⟩ := pu_put_any (σ := t5) (th := 423) (x := t5 416 0) (v := v2 + (1 : Int32)) (by rw [pu_l424]; decide)
      refine pu_bde a6 ?_
      have gf : ∀ k, ¬ (424 ≤ k ∧ k < 435) → t6 k = a20.2 k := fun k hk => (c6 k (by omega)).trans ((c5 k (by omega)).trans ((c4 k (by omega)).trans ((c3 k (by omega)).trans ((c2 k (by omega)).trans (c1 k (by omega))))))
      exact pu_some ⟨pu_SC_set H8 ⟨by rw [gf 403 (by decide)], by rw [gf 403 (by decide)]⟩ (gf 400 (by decide)) (fun k hk => gf k (by omega)) (fun y => absurd y z), (gf 416 (by decide)).trans s416, (gf 420 (by decide)).trans s420⟩
    · exact pu_if (fun _ => pu_if (fun _ => hf _ trivial) (fun _ => hf _ trivial)) (fun _ => hf _ trivial)
end CLG2
