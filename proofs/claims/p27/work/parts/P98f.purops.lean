/-! the reference's reader, step by step -/
section ROPS
variable {σ : tw_Sg} {B : Nat → Nat} {L s n : Nat} {E : Option (Int32 × Nat)}
def pu_eRr (E : Option (Int32 × Nat)) (σ : tw_Sg) : Prop := match E with
  | none => σ 442 5 = 0 ∧ σ 442 6 = -1
  | some e => σ 442 5 = e.1 ∧ e.1 ≠ 0 ∧ σ 442 6 = Int32.ofNat e.2
def pu_rT (B : Nat → Nat) (L : Nat) (σ : tw_Sg) : Prop := σ 442 3 = Int32.ofNat L ∧ L ≤ 600 ∧ ∀ i, i < L → σ 443 i = Int32.ofNat (B i) ∧ B i < 256
/-- the next token is at s (if there is no error) -/
def pu_rL (B : Nat → Nat) (L s : Nat) (E : Option (Int32 × Nat)) (σ : tw_Sg) : Prop := pu_rT B L σ ∧ pu_eRr E σ ∧ (E = none → s ≤ L ∧ ∃ p, p ≤ L ∧ σ 442 4 = Int32.ofNat p ∧ pu_sk B L p = s)
/-- reading stands just at s -/
def pu_rAt (B : Nat → Nat) (L s : Nat) (σ : tw_Sg) : Prop := pu_rL B L s none σ ∧ σ 442 4 = Int32.ofNat s
def pu_fB (σ σ' : tw_Sg) : Prop := (∀ k, k ≠ 442 → σ' k = σ k) ∧ ∀ i, i ≠ 4 → i ≠ 5 → i ≠ 6 → i ≠ 12 → σ' 442 i = σ 442 i
theorem pu_fB_refl {σ : tw_Sg} : pu_fB σ σ := ⟨fun _ _ => rfl, fun _ _ _ _ _ => rfl⟩
theorem pu_fB_trans {σ σ' σ'' : tw_Sg} (h : pu_fB σ σ') (h' : pu_fB σ' σ'') : pu_fB σ σ'' := ⟨fun k hk => (h'.1 k hk).trans (h.1 k hk), fun i h1 h2 h3 h4 => (h'.2 i h1 h2 h3 h4).trans (h.2 i h1 h2 h3 h4)⟩
theorem pu_fB_up {σ : tw_Sg} {i : Nat} {x : Int32} (hi : i = 4 ∨ i = 5 ∨ i = 6 ∨ i = 12) : pu_fB σ (tw_up σ 442 i x) := ⟨fun k hk => tw_up_n hk, fun j h1 h2 h3 h4 => by rw [tw_up_s, pu_upd_n (by omega)]⟩
theorem pu_u442 {σ : tw_Sg} {i j : Nat} {x : Int32} (h : j ≠ i) : tw_up σ 442 i x 442 j = σ 442 j := by rw [tw_up_s, pu_upd_n h]
theorem pu_u442s {σ : tw_Sg} {i : Nat} {x : Int32} : tw_up σ 442 i x 442 i = x := by rw [tw_up_s, pu_upd_s]
theorem pu_eRr_up {i : Nat} {x : Int32} (h : pu_eRr E σ) (h5 : i ≠ 5) (h6 : i ≠ 6) : pu_eRr E (tw_up σ 442 i x) := by
  unfold pu_eRr at h ⊢
  rw [pu_u442 (fun e => h5 e.symm), pu_u442 (fun e => h6 e.symm)]
  exact h
theorem pu_rT_up {i : Nat} {x : Int32} (h : pu_rT B L σ) (h3 : i ≠ 3) : pu_rT B L (tw_up σ 442 i x) := by
  unfold pu_rT at h ⊢
  rw [pu_u442 (fun e => h3 e.symm), tw_up_n (show 443 ≠ 442 by decide)]
  exact h
theorem pu_rAt_up {i : Nat} {x : Int32} (h : pu_rAt B L s σ) (h3 : i ≠ 3) (h4 : i ≠ 4) (h5 : i ≠ 5) (h6 : i ≠ 6) : pu_rAt B L s (tw_up σ 442 i x) := by
  obtain ⟨⟨a1, a2, a3⟩, a4⟩ := h
  obtain ⟨b1, p, b2, b3, b4⟩ := a3 rfl
  exact ⟨⟨pu_rT_up a1 h3, pu_eRr_up a2 h5 h6, fun _ => ⟨b1, p, b2, (pu_u442 (fun e => h4 e.symm)).trans b3, b4⟩⟩, (pu_u442 (fun e => h4 e.symm)).trans a4⟩
/-- reading moved to p -/
theorem pu_rmv {p t : Nat} (h : pu_rL B L s none σ) (hp : p ≤ L) (ht : pu_sk B L p = t) : pu_rL B L t none (tw_up σ 442 4 (Int32.ofNat p)) := ⟨pu_rT_up h.1 (by decide), pu_eRr_up h.2.1 (by decide) (by decide), fun _ => ⟨by
  have := pu_sk_rng (B := B) (L := L) (L - p) p rfl hp
  rw [ht] at this
  exact this.2.1, p, hp, pu_u442s, ht⟩⟩
theorem pu_rL_any {t : Nat} {e : Int32 × Nat} (h : pu_rL B L s (some e) σ) : pu_rL B L t (some e) σ := ⟨h.1, h.2.1, fun z => by cases z⟩
def pu_nb1 (B : Nat → Nat) (L s : Nat) : Int32 := if s < L then Int32.ofNat (B s) else -1
theorem pu_bytW {w j : Nat} (hw : w < 21) (hj : j < tw_len.getD w 0) : ∃ b : Nat, (tw_byt.getD w []).getD j 0 = Int32.ofNat b ∧ 97 ≤ b ∧ b ≤ 122 := by
  have h := tw_rng (n := 21) (p := fun w => (List.range (tw_len.getD w 0)).all (fun j => (List.range 26).any (fun b => decide ((tw_byt.getD w []).getD j 0 = Int32.ofNat (97 + b))))) (by decide +kernel) w hw
  have h2 := List.all_eq_true.mp h j (List.mem_range.mpr hj)
  obtain ⟨b, hb, e⟩ := List.any_eq_true.mp h2
  have := List.mem_range.mp hb
  exact ⟨97 + b, of_decide_eq_true e, by omega, by omega⟩
theorem pu_len1 {w : Nat} (hw : w < 21) : 0 < tw_len.getD w 0 := of_decide_eq_true (tw_rng (n := 21) (p := fun w => decide (0 < tw_len.getD w 0)) (by decide +kernel) w hw)
/-- all letters of the word there: it is the token if no letter follows -/
theorem pu_isW_all {w : Nat} (hw : w < 21) (hs : s ≤ L) (hB : ∀ i, i < L → B i < 256) (hm : ∀ j, j < tw_len.getD w 0 → s + j < L ∧ Int32.ofNat (B (s + j)) = (tw_byt.getD w []).getD j 0) : pu_isW B L s w = true ↔ ¬ (s + tw_len.getD w 0 < L ∧ 97 ≤ B (s + tw_len.getD w 0) ∧ B (s + tw_len.getD w 0) ≤ 122) := by
  have h0 := pu_len1 hw
  have hlet : ∀ j, j < tw_len.getD w 0 → pu_kdb (B (s + j)) = 1 := fun j hj => by
    obtain ⟨m1, m2⟩ := hm j hj
    obtain ⟨b, e, b1, b2⟩ := pu_bytW hw hj
    rw [e] at m2
    have := hB _ m1
    have m2 := (pu_eq (by omega) (by omega)).mp m2
    rw [m2]
    exact pu_let.mpr ⟨b1, b2⟩
  have hsL : s < L := by have := (hm 0 h0).1; omega
  have htk : pu_tk B L s = 1 := by unfold pu_tk; rw [if_pos hsL]; exact hlet 0 h0
  obtain ⟨t1, t2, t3, t4, t5⟩ := pu_te_rng (B := B) hs
  rw [htk] at t4 t5
  have t5 := t5 (by decide)
  have hge : s + tw_len.getD w 0 ≤ pu_te B L s := by
    rcases Nat.lt_or_ge (pu_te B L s) (s + tw_len.getD w 0) with z | z
    · exfalso
      have := hm (pu_te B L s - s) (by omega)
      have h2 := hlet (pu_te B L s - s) (by omega)
      rw [show s + (pu_te B L s - s) = pu_te B L s from by omega] at this h2
      exact t5 ⟨this.1, h2⟩
    · exact z
  rw [pu_isW_iff]
  constructor
  · rintro ⟨-, h2, -⟩ ⟨z1, z2⟩
    have : pu_te B L s = s + tw_len.getD w 0 := by omega
    rw [this] at t5
    exact t5 ⟨z1, pu_let.mpr z2⟩
  · intro hno
    refine ⟨htk, ?_, fun j hj => (hm j hj).2⟩
    rcases Nat.lt_or_ge (s + tw_len.getD w 0) (pu_te B L s) with z | z
    · have := t4 (s + tw_len.getD w 0) (by omega) z
      exact absurd ⟨by omega, pu_let.mp this⟩ hno
    · omega
def pu_numOkR (B : Nat → Nat) (L s : Nat) (lo hi : Int) : Prop := pu_tk B L s = 2 ∧ lo ≤ (pu_num B L s : Int) ∧ (pu_num B L s : Int) ≤ hi
/-- a number in a range below 1000 is one for both -/
theorem pu_numOk_iff {lo hi : Int} (h : hi < 1000) : pu_numOk B L s lo hi ↔ pu_numOkR B L s lo hi := by
  unfold pu_numOk pu_numOkR pu_cap
  constructor
  · rintro ⟨h1, h2, h3⟩
    exact ⟨h1, by omega, by omega⟩
  · rintro ⟨h1, h2, h3⟩
    exact ⟨h1, by omega, by omega⟩
end ROPS
