/-! the reference: water, land, marks, the team -/
section RST
variable {σ σ0 : tw_Sg} {B : Nat → Nat} {L p n w h : Nat} {E : Option (Int32 × Nat)} {A A' : Nat → Int32}
theorem pu_30 {y : Nat} (hy : y < 30) : 30 - (y + 1) < 30 - y := by omega
theorem pu_semi_nb (hB : ∀ i, i < L → B i < 256) : pu_nb1 B L p = (59 : Int32) ↔ pu_semi B L p = true := by
  unfold pu_nb1 pu_semi
  by_cases c : p < L
  · have := hB p c
    rw [if_pos c, show (59 : Int32) = Int32.ofNat 59 from rfl, pu_eq (by omega) (by decide), decide_eq_true_iff]
    exact ⟨fun z => ⟨c, z⟩, fun z => z.2⟩
  · rw [if_neg c, decide_eq_true_iff]
    exact ⟨fun z => absurd z (by decide), fun z => absurd z.1 c⟩
theorem pu_SR_B (H : pu_SR B L σ0 A E p σ) : ∀ i, i < L → B i < 256 := fun i hi => (H.1.1.2.2 i hi).2
noncomputable def pu_eW3 (B : Nat → Nat) (L w h : Nat) (A : Nat → Int32) (q : Nat) : Option (Int32 × Nat) := pu_fs (pu_eW2 B L w h A q) (pu_semi B L (pu_nk B L 4 q) = true → ∃ c, c < w * h ∧ pu_land (pu_qW B L w h A q) c = true) (-7) (pu_nk B L 4 q)
theorem pu_eW_eq {q : Nat} : pu_eW B L w h A q = pu_fs (pu_eW3 B L w h A q) (pu_semi B L (pu_nk B L 4 q) = true) (-2) (pu_nk B L 4 q) := pu_fs_comm.symm
/-- another row -/
theorem pu_SR_row {σ' : tw_Sg} (H : pu_SR B L σ0 A E p σ) (hf : ∀ k, k ≠ 445 → σ' k = σ k) (hz : ∀ j, 1028 ≤ j → σ' 445 j = 0) (hE : E = none → σ' 445 = upd A' 4 0 ∧ A' 4 = A 4) : pu_SR B L σ0 A' E p σ' := by
  obtain ⟨⟨⟨a1, a2, a3⟩, a4, a5⟩, h2, h3, h4⟩ := H
  have e442 : σ' 442 = σ 442 := hf 442 (by decide)
  have e443 : σ' 443 = σ 443 := hf 443 (by decide)
  refine ⟨⟨⟨by rw [e442]; exact a1, a2, fun i hi => by rw [e443]; exact a3 i hi⟩, ?_, fun z => by rw [e442]; exact a5 z⟩, hz, fun z => ⟨(hE z).1, by rw [e442, (h3 z).2, (hE z).2]⟩, pu_fT_trans h4 ⟨fun k _ b => hf k b, fun i _ _ => by rw [e442]⟩⟩
  unfold pu_eRr at a4 ⊢
  rw [e442]
  exact a4
theorem pu_eR_A4 (W : pu_AW A w h) : A 4 = pu_eR (pu_tm A) := by
  unfold pu_tm
  by_cases c : A 4 = -1
  · rw [if_pos c, c]; rfl
  · rw [if_neg c]
    exact (W.2.2.2.2.1.resolve_left c).1
theorem pu_eR_mk (W : pu_AW A w h) {m : Nat} (hm : m < 8) : A (808 + m) = pu_eR (pu_mk A m) := by
  unfold pu_mk
  by_cases c : A (808 + m) = -1
  · rw [if_pos c, c]; rfl
  · rw [if_neg c]
    exact ((W.2.2.2.1.2.2.1 m hm).resolve_left c).1
/-- the part of the rectangle above and left of a place is water -/
def pu_wz (w h x0 y0 x1 y1 y x : Nat) (c : Nat) : Prop := c < w * h ∧ pu_inA w x0 y0 x1 y1 c = true ∧ (c / w < y ∨ (c / w = y ∧ c % w < x))
end RST
