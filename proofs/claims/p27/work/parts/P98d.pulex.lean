/-! THE READERS. The text: bytes B i below the length L; tokens. -/
def pu_kdb (b : Nat) : Nat := if 97 ≤ b ∧ b ≤ 122 then 1 else if 48 ≤ b ∧ b ≤ 57 then 2 else 3
theorem pu_kdb3 {b : Nat} : pu_kdb b = 1 ∨ pu_kdb b = 2 ∨ pu_kdb b = 3 := by
  unfold pu_kdb
  split
  · exact Or.inl rfl
  · split
    · exact Or.inr (Or.inl rfl)
    · exact Or.inr (Or.inr rfl)
/-- over spaces -/
def pu_sk (B : Nat → Nat) (L p : Nat) : Nat := if p < L ∧ B p = 32 then pu_sk B L (p + 1) else p
termination_by L - p
decreasing_by omega
/-- over bytes of the kind k -/
def pu_rn (B : Nat → Nat) (L k p : Nat) : Nat := if p < L ∧ pu_kdb (B p) = k then pu_rn B L k (p + 1) else p
termination_by L - p
decreasing_by omega
theorem pu_sk_y {B : Nat → Nat} {L p : Nat} (h : p < L ∧ B p = 32) : pu_sk B L p = pu_sk B L (p + 1) := by
  rw [pu_sk, if_pos h]
theorem pu_sk_n {B : Nat → Nat} {L p : Nat} (h : ¬ (p < L ∧ B p = 32)) : pu_sk B L p = p := by
  rw [pu_sk, if_neg h]
theorem pu_rn_y {B : Nat → Nat} {L k p : Nat} (h : p < L ∧ pu_kdb (B p) = k) : pu_rn B L k p = pu_rn B L k (p + 1) := by
  rw [pu_rn, if_pos h]
theorem pu_rn_n {B : Nat → Nat} {L k p : Nat} (h : ¬ (p < L ∧ pu_kdb (B p) = k)) : pu_rn B L k p = p := by
  rw [pu_rn, if_neg h]
theorem pu_sk_rng {B : Nat → Nat} {L : Nat} : ∀ m p, L - p = m → p ≤ L → p ≤ pu_sk B L p ∧ pu_sk B L p ≤ L ∧ ¬ (pu_sk B L p < L ∧ B (pu_sk B L p) = 32)
  | 0, p, hm, hp => by
    have h : ¬ (p < L ∧ B p = 32) := by omega
    rw [pu_sk_n h]
    exact ⟨Nat.le_refl _, hp, h⟩
  | m + 1, p, hm, hp => by
    by_cases h : p < L ∧ B p = 32
    · rw [pu_sk_y h]
      obtain ⟨a1, a2, a3⟩ := pu_sk_rng (B := B) (L := L) m (p + 1) (by omega) (by omega)
      exact ⟨by omega, a2, a3⟩
    · rw [pu_sk_n h]
      exact ⟨Nat.le_refl _, hp, h⟩
theorem pu_rn_rng {B : Nat → Nat} {L k : Nat} : ∀ m p, L - p = m → p ≤ L → p ≤ pu_rn B L k p ∧ pu_rn B L k p ≤ L ∧ (∀ i, p ≤ i → i < pu_rn B L k p → pu_kdb (B i) = k) ∧ ¬ (pu_rn B L k p < L ∧ pu_kdb (B (pu_rn B L k p)) = k)
  | 0, p, hm, hp => by
    have h : ¬ (p < L ∧ pu_kdb (B p) = k) := by omega
    rw [pu_rn_n h]
    exact ⟨Nat.le_refl _, hp, fun i h1 h2 => by omega, h⟩
  | m + 1, p, hm, hp => by
    by_cases h : p < L ∧ pu_kdb (B p) = k
    · rw [pu_rn_y h]
      obtain ⟨a1, a2, a3, a4⟩ := pu_rn_rng (B := B) (L := L) (k := k) m (p + 1) (by omega) (by omega)
      refine ⟨by omega, a2, fun i h1 h2 => ?_, a4⟩
      by_cases e : i = p
      · rw [e]; exact h.2
      · exact a3 i (by omega) h2
    · rw [pu_rn_n h]
      exact ⟨Nat.le_refl _, hp, fun i h1 h2 => by omega, h⟩
/-- the token at s: its kind, its end, the next one -/
def pu_tk (B : Nat → Nat) (L s : Nat) : Nat := if s < L then pu_kdb (B s) else 0
def pu_te (B : Nat → Nat) (L s : Nat) : Nat := if s < L then (if pu_kdb (B s) = 3 then s + 1 else pu_rn B L (pu_kdb (B s)) (s + 1)) else L
def pu_nx (B : Nat → Nat) (L s : Nat) : Nat := pu_sk B L (pu_te B L s)
theorem pu_te_rng {B : Nat → Nat} {L s : Nat} (hs : s ≤ L) : s ≤ pu_te B L s ∧ pu_te B L s ≤ L ∧ (s < L → s < pu_te B L s) ∧ (∀ i, s ≤ i → i < pu_te B L s → pu_kdb (B i) = pu_tk B L s) ∧ (pu_tk B L s ≠ 3 → ¬ (pu_te B L s < L ∧ pu_kdb (B (pu_te B L s)) = pu_tk B L s)) := by
  unfold pu_te pu_tk
  by_cases h : s < L
  · rw [if_pos h, if_pos h]
    by_cases h3 : pu_kdb (B s) = 3
    · rw [if_pos h3]
      exact ⟨by omega, by omega, fun _ => by omega, fun i h1 h2 => by rw [show i = s from by omega], fun z => absurd h3 z⟩
    · rw [if_neg h3]
      obtain ⟨a1, a2, a3, a4⟩ := pu_rn_rng (B := B) (L := L) (k := pu_kdb (B s)) (L - (s + 1)) (s + 1) rfl (by omega)
      refine ⟨by omega, a2, fun _ => by omega, fun i h1 h2 => ?_, fun _ => a4⟩
      by_cases e : i = s
      · rw [e]
      · exact a3 i (by omega) h2
  · rw [if_neg h, if_neg h]
    exact ⟨by omega, Nat.le_refl _, fun z => absurd z h, fun i h1 h2 => by omega, fun _ z => absurd z.1 (Nat.lt_irrefl _)⟩
theorem pu_nx_rng {B : Nat → Nat} {L s : Nat} (hs : s ≤ L) : s ≤ pu_nx B L s ∧ pu_nx B L s ≤ L ∧ (s < L → s < pu_nx B L s) ∧ ¬ (pu_nx B L s < L ∧ B (pu_nx B L s) = 32) := by
  obtain ⟨a1, a2, a3, -⟩ := pu_te_rng (B := B) hs
  obtain ⟨b1, b2, b3⟩ := pu_sk_rng (B := B) (L := L) (L - pu_te B L s) (pu_te B L s) rfl a2
  exact ⟨Nat.le_trans a1 b1, b2, fun z => Nat.lt_of_lt_of_le (a3 z) b1, b3⟩
/-- whether the token at s is the word w -/
def pu_isW (B : Nat → Nat) (L s w : Nat) : Bool := decide (pu_tk B L s = 1) && decide (pu_te B L s - s = tw_len.getD w 0) && (List.range (tw_len.getD w 0)).all (fun i => decide (Int32.ofNat (B (s + i)) = (tw_byt.getD w []).getD i 0))
theorem pu_isW_iff {B : Nat → Nat} {L s w : Nat} : pu_isW B L s w = true ↔ pu_tk B L s = 1 ∧ pu_te B L s - s = tw_len.getD w 0 ∧ ∀ i, i < tw_len.getD w 0 → Int32.ofNat (B (s + i)) = (tw_byt.getD w []).getD i 0 := by
  unfold pu_isW
  rw [Bool.and_eq_true, Bool.and_eq_true, decide_eq_true_iff, decide_eq_true_iff, List.all_eq_true]
  constructor
  · rintro ⟨⟨h1, h2⟩, h3⟩
    exact ⟨h1, h2, fun i hi => of_decide_eq_true (h3 i (List.mem_range.mpr hi))⟩
  · rintro ⟨h1, h2, h3⟩
    exact ⟨⟨h1, h2⟩, fun i hi => decide_eq_true (h3 i (List.mem_range.mp hi))⟩
/-- the number of k digits from s on -/
def pu_nv (B : Nat → Nat) (s : Nat) : Nat → Nat
  | 0 => 0
  | k + 1 => min 100000000 (10 * pu_nv B s k + (B (s + k) - 48))
theorem pu_nv_le {B : Nat → Nat} {s : Nat} : ∀ k, pu_nv B s k ≤ 100000000
  | 0 => Nat.zero_le _
  | k + 1 => Nat.min_le_left _ _
def pu_num (B : Nat → Nat) (L s : Nat) : Nat := pu_nv B s (pu_te B L s - s)
/-! the class's reader -/
def pu_eC (E : Option (Int32 × Nat)) (σ : tw_Sg) : Prop := match E with
  | none => σ 400 7 = 0 ∧ σ 400 8 = -1
  | some e => σ 400 7 = e.1 ∧ e.1 ≠ 0 ∧ σ 400 8 = Int32.ofNat e.2
def pu_cT (B : Nat → Nat) (L : Nat) (σ : tw_Sg) : Prop := σ 400 3 = Int32.ofNat L ∧ L ≤ 600 ∧ ∀ i, i < L → σ 402 i = Int32.ofNat (B i) ∧ B i < 256
def pu_cL (B : Nat → Nat) (L s : Nat) (E : Option (Int32 × Nat)) (σ : tw_Sg) : Prop := pu_cT B L σ ∧ (σ 400 4 = Int32.ofNat s ∧ σ 400 5 = Int32.ofNat (pu_te B L s) ∧ σ 400 6 = Int32.ofNat (pu_tk B L s)) ∧ s ≤ L ∧ pu_eC E σ
/-- what the reader's own steps keep -/
def pu_fA (σ σ' : tw_Sg) : Prop := (∀ k, k ≠ 400 → σ' k = σ k) ∧ ∀ i, i = 1 ∨ i = 9 ∨ i = 10 → σ' 400 i = σ 400 i
theorem pu_fA_refl {σ : tw_Sg} : pu_fA σ σ := ⟨fun _ _ => rfl, fun _ _ => rfl⟩
theorem pu_fA_trans {σ σ' σ'' : tw_Sg} (h : pu_fA σ σ') (h' : pu_fA σ' σ'') : pu_fA σ σ'' := ⟨fun k hk => (h'.1 k hk).trans (h.1 k hk), fun i hi => (h'.2 i hi).trans (h.2 i hi)⟩
theorem pu_fA_up {σ : tw_Sg} {i : Nat} {x : Int32} (hi : i ≠ 1 ∧ i ≠ 9 ∧ i ≠ 10) : pu_fA σ (tw_up σ 400 i x) := ⟨fun k hk => tw_up_n hk, fun j hj => by rw [tw_up_s, pu_upd_n (by omega)]⟩
theorem pu_u400 {σ : tw_Sg} {i j : Nat} {x : Int32} (h : j ≠ i) : tw_up σ 400 i x 400 j = σ 400 j := by rw [tw_up_s, pu_upd_n h]
theorem pu_u400s {σ : tw_Sg} {i : Nat} {x : Int32} : tw_up σ 400 i x 400 i = x := by rw [tw_up_s, pu_upd_s]
theorem pu_eC_up {σ : tw_Sg} {E : Option (Int32 × Nat)} {i : Nat} {x : Int32} (h : pu_eC E σ) (h7 : i ≠ 7) (h8 : i ≠ 8) : pu_eC E (tw_up σ 400 i x) := by
  unfold pu_eC at h ⊢
  rw [pu_u400 (fun e => h7 e.symm), pu_u400 (fun e => h8 e.symm)]
  exact h
theorem pu_cT_up {σ : tw_Sg} {B : Nat → Nat} {L i : Nat} {x : Int32} (h : pu_cT B L σ) (h3 : i ≠ 3) : pu_cT B L (tw_up σ 400 i x) := by
  unfold pu_cT at h ⊢
  rw [pu_u400 (fun e => h3 e.symm), tw_up_n (show 402 ≠ 400 by decide)]
  exact h
theorem pu_kindOf {σ : tw_Sg} {b : Nat} (hb : b < 256) : tw_P_X6_kindOf (Int32.ofNat b) σ = some (Int32.ofNat (pu_kdb b)) := by
  unfold tw_P_X6_kindOf pu_kdb
  dsimp only [tw_jn]
  have c97 : Int32.ofNat b < (97 : Int32) ↔ b < 97 := pu_ltn (b := 97) (by omega) (by decide)
  have c122 : (122 : Int32) < Int32.ofNat b ↔ 122 < b := pu_ltn (a := 122) (by decide) (by omega)
  have c48 : Int32.ofNat b < (48 : Int32) ↔ b < 48 := pu_ltn (b := 48) (by omega) (by decide)
  have c57 : (57 : Int32) < Int32.ofNat b ↔ 57 < b := pu_ltn (a := 57) (by decide) (by omega)
  by_cases h1 : b < 97
  · rw [if_pos (c97.mpr h1), if_neg (show ¬ (97 ≤ b ∧ b ≤ 122) by omega)]
    by_cases h2 : b < 48
    · rw [if_pos (c48.mpr h2), if_neg (show ¬ (48 ≤ b ∧ b ≤ 57) by omega)]; rfl
    · rw [if_neg (fun z => h2 (c48.mp z))]
      by_cases h3 : 57 < b
      · rw [if_pos (c57.mpr h3), if_neg (show ¬ (48 ≤ b ∧ b ≤ 57) by omega)]; rfl
      · rw [if_neg (fun z => h3 (c57.mp z)), if_pos (show 48 ≤ b ∧ b ≤ 57 by omega)]; rfl
  · rw [if_neg (fun z => h1 (c97.mp z))]
    by_cases h2 : 122 < b
    · rw [if_pos (c122.mpr h2), if_neg (show ¬ (97 ≤ b ∧ b ≤ 122) by omega), if_neg (fun z => absurd (c48.mp z) (by omega)), if_pos (c57.mpr (by omega)), if_neg (show ¬ (48 ≤ b ∧ b ≤ 57) by omega)]; rfl
    · rw [if_neg (fun z => h2 (c122.mp z)), if_pos (show 97 ≤ b ∧ b ≤ 122 by omega)]; rfl
/-- from the end e of a token on -/
theorem pu_adv0 {σ : tw_Sg} {B : Nat → Nat} {L e n : Nat} {E : Option (Int32 × Nat)} (hT : pu_cT B L σ) (h5 : σ 400 5 = Int32.ofNat e) (he : e ≤ L) (hE : pu_eC E σ) (hn : 2000 < n) : pu_wp (tw_P_X6_advance n σ) (fun σ' => pu_cL B L (pu_sk B L e) E σ' ∧ pu_fA σ σ') := by
  have hL6 := hT.2.1
  unfold tw_P_X6_advance
  rw [h5]
  refine pu_lt ?_
  refine pu_lp (J := fun t => ∃ p, p ≤ L ∧ t 400 4 = Int32.ofNat p ∧ pu_sk B L p = pu_sk B L e ∧ pu_cT B L t ∧ pu_eC E t ∧ pu_fA σ t) (m := fun t => 700 - (t 400 4).toNatClampNeg) ?_ n _ (by show 700 - _ < n; omega) ⟨e, he, pu_u400s, rfl, pu_cT_up hT (by decide), pu_eC_up hE (by decide) (by decide), pu_fA_up (by decide)⟩
  rintro k3 t ⟨p, hp, e4, hsk, hT1, hE1, hf⟩ hk3
  have t3 : t 400 3 = Int32.ofNat L := hT1.1
  refine pu_jn (R := fun _ => ¬ (p < L ∧ B p = 32)) (fun u hu => ?_) (fun f hf' => ?_)
  · -- the token begins
    have hu : ¬ (p < L ∧ B p = 32) := hu
    have hs : pu_sk B L e = p := by rw [← hsk]; exact pu_sk_n hu
    rw [hs]
    refine pu_jn (R := fun v => v = Int32.ofNat (pu_tk B L p)) (fun v hv => ?_) (fun g hg => ?_)
    rotate_left
    · refine pu_if (fun c => ?_) (fun c => ?_) <;> rw [t3, e4, pu_le (by omega) (by omega)] at c
      · exact hg _ (by unfold pu_tk; rw [if_neg (by omega)]; rfl)
      · obtain ⟨z1, z2⟩ := hT1.2.2 p (by omega)
        rw [e4]
        refine pu_bde (pu_get (th := 401) (i := p) (N := 600) pu_l402 (by decide) (by omega)) ?_
        rw [show t (401 + 1) p = Int32.ofNat (B p) from z1]
        refine pu_bde (pu_kindOf z2) (hg _ ?_)
        unfold pu_tk
        rw [if_pos (by omega)]
    subst hv
    have htk : pu_tk B L p < 4 := by
      unfold pu_tk
      split
      · rcases pu_kdb3 (b := B p) with z | z | z <;> omega
      · decide
    refine pu_ltG (P := fun s => s 400 6 = Int32.ofNat (pu_tk B L p) ∧ s 400 4 = Int32.ofNat p ∧ pu_cT B L s ∧ pu_eC E s ∧ pu_fA σ s) ⟨pu_u400s, (pu_u400 (by decide)).trans e4, pu_cT_up hT1 (by decide), pu_eC_up hE1 (by decide) (by decide), pu_fA_trans hf (pu_fA_up (by decide))⟩ (fun s hs => ?_)
    obtain ⟨s6, s4, hT2, hE2, hf2⟩ := hs
    have s3 : s 400 3 = Int32.ofNat L := hT2.1
    refine pu_jn (R := fun v => v = Int32.ofNat (if p < L then p + 1 else L)) (fun v hv => ?_) (fun g hg => ?_)
    rotate_left
    · refine pu_if (fun c => ?_) (fun c => ?_) <;> rw [s3, s4, pu_le (by omega) (by omega)] at c
      · rw [s3]
        exact hg _ (by rw [if_neg (by omega)])
      · rw [s4]
        exact hg _ (by rw [if_pos (by omega)]; exact pu_add p 1)
    subst hv
    refine pu_lt ?_
    refine pu_lp (J := fun x => ∃ q, q ≤ L ∧ x 400 5 = Int32.ofNat q ∧ (pu_tk B L p ≠ 3 → p < L → pu_rn B L (pu_tk B L p) q = pu_te B L p) ∧ ((pu_tk B L p = 3 ∨ ¬ p < L) → q = pu_te B L p) ∧ x 400 6 = Int32.ofNat (pu_tk B L p) ∧ x 400 4 = Int32.ofNat p ∧ pu_cT B L x ∧ pu_eC E x ∧ pu_fA σ x) (m := fun x => 700 - (x 400 5).toNatClampNeg) ?_ n _ (by show 700 - _ < n; omega) ⟨if p < L then p + 1 else L, by split <;> omega, pu_u400s, fun h3 hl => ?_, fun h3 => ?_, (pu_u400 (by decide)).trans s6, (pu_u400 (by decide)).trans s4, pu_cT_up hT2 (by decide), pu_eC_up hE2 (by decide) (by decide), pu_fA_trans hf2 (pu_fA_up (by decide))⟩
    rotate_left
    · unfold pu_tk at h3 ⊢
      unfold pu_te
      rw [if_pos hl] at h3 ⊢
      rw [if_pos hl, if_pos hl, if_neg h3]
    · unfold pu_te
      by_cases hl : p < L
      · rw [if_pos hl, if_pos hl]
        have h3 : pu_tk B L p = 3 := h3.resolve_right (fun z => z hl)
        unfold pu_tk at h3
        rw [if_pos hl] at h3
        rw [if_pos h3]
      · rw [if_neg hl, if_neg hl]
    clear s6 s4 s3 hT2 hE2 hf2 hk3 hT1 hE1 hf
    rintro k13 x ⟨q, hq, x5, hr, hr3, x6, x4, hT2, hE2, hf2⟩ hk13
    have x3 : x 400 3 = Int32.ofNat L := hT2.1
    refine pu_jn (R := fun _ => q = pu_te B L p) (fun u hu => ?_) (fun g hg => ?_)
    · have hu : q = pu_te B L p := hu
      subst hu
      exact pu_some ⟨⟨hT2, ⟨x4, x5, x6⟩, hp, hE2⟩, hf2⟩
    refine pu_if (fun c => ?_) (fun c => ?_)
    · rw [x6] at c
      exact hg () (hr3 (Or.inl ((pu_eq (b := 3) (by omega) (by decide)).mp c)))
    rw [x6] at c
    have c3 : pu_tk B L p ≠ 3 := fun z => c (by rw [z]; rfl)
    by_cases hpl : p < L
    rotate_left
    · have := hr3 (Or.inr hpl)
      refine pu_if (fun c => hg () this) (fun c => ?_)
      rw [x3, x5, pu_le (by omega) (by omega)] at c
      have : pu_te B L p = L := by unfold pu_te; rw [if_neg hpl]
      omega
    have hr := hr c3 hpl
    refine pu_if (fun c => ?_) (fun c => ?_) <;> rw [x3, x5, pu_le (by omega) (by omega)] at c
    · refine hg () ?_
      show q = _
      rw [← hr]
      exact (pu_rn_n (by omega)).symm
    obtain ⟨z1, z2⟩ := hT2.2.2 q (by omega)
    rw [x5]
    refine pu_bde (pu_get (th := 401) (i := q) (N := 600) pu_l402 (by decide) (by omega)) ?_
    rw [show x (401 + 1) q = Int32.ofNat (B q) from z1]
    refine pu_bde (pu_kindOf z2) ?_
    have hk : pu_kdb (B q) < 4 := by rcases pu_kdb3 (b := B q) with z | z | z <;> omega
    refine pu_if (fun c4 => ?_) (fun c4 => ?_) <;> rw [x6, pu_eq (by omega) (by omega)] at c4
    · refine hg () ?_
      show q = _
      rw [← hr]
      exact (pu_rn_n (fun z => c4 z.2)).symm
    · have c4 := Classical.not_not.mp c4
      refine pu_lt ?_
      have em : Int32.ofNat q + (1 : Int32) = Int32.ofNat (q + 1) := pu_add q 1
      rw [em]
      refine hk13 _ ⟨q + 1, by omega, pu_u400s, fun _ _ => by rw [← hr]; exact (pu_rn_y ⟨by omega, c4⟩).symm, fun z => absurd z (by rintro (z | z); exact c3 z; exact z hpl), (pu_u400 (by decide)).trans x6, (pu_u400 (by decide)).trans x4, pu_cT_up hT2 (by decide), pu_eC_up hE2 (by decide) (by decide), pu_fA_trans hf2 (pu_fA_up (by decide))⟩ ?_
      rw [pu_u400s, x5, pu_n (by omega), pu_n (by omega)]
      omega
  · refine pu_if (fun c => ?_) (fun c => ?_) <;> rw [t3, e4, pu_le (by omega) (by omega)] at c
    · exact hf' () (by omega)
    obtain ⟨z1, z2⟩ := hT1.2.2 p (by omega)
    rw [e4]
    refine pu_bde (pu_get (th := 401) (i := p) (N := 600) pu_l402 (by decide) (by omega)) ?_
    rw [show t (401 + 1) p = Int32.ofNat (B p) from z1]
    refine pu_if (fun c2 => ?_) (fun c2 => ?_) <;> rw [show (32 : Int32) = Int32.ofNat 32 from rfl, pu_eq (by omega) (by decide)] at c2
    · exact hf' () (fun z => c2 z.2)
    · have c2 := Classical.not_not.mp c2
      refine pu_lt ?_
      have em : Int32.ofNat p + (1 : Int32) = Int32.ofNat (p + 1) := pu_add p 1
      rw [em]
      refine hk3 _ ⟨p + 1, by omega, pu_u400s, by rw [← hsk]; exact (pu_sk_y ⟨by omega, c2⟩).symm, pu_cT_up hT1 (by decide), pu_eC_up hE1 (by decide) (by decide), pu_fA_trans hf (pu_fA_up (by decide))⟩ ?_
      rw [pu_u400s, e4, pu_n (by omega), pu_n (by omega)]
      omega
