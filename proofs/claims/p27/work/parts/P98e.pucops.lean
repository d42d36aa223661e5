/-! the class's reader, step by step -/
section COPS
variable {σ : tw_Sg} {B : Nat → Nat} {L s n : Nat} {E : Option (Int32 × Nat)}
def pu_or (E : Option (Int32 × Nat)) (c : Int32) (o : Nat) : Option (Int32 × Nat) := match E with | some e => some e | none => some (c, o)
theorem pu_cadv (h : pu_cL B L s E σ) (hn : 2000 < n) : pu_wp (tw_P_X6_advance n σ) (fun σ' => pu_cL B L (pu_nx B L s) E σ' ∧ pu_fA σ σ') := pu_adv0 h.1 h.2.1.2.1 (pu_te_rng h.2.2.1).2.1 h.2.2.2 hn
theorem pu_cfail {c : Int32} {o : Nat} (h : pu_cL B L s E σ) (hc : c ≠ 0) : pu_wp (tw_P_X6_fail c (Int32.ofNat o) σ) (fun σ' => pu_cL B L s (pu_or E c o) σ' ∧ pu_fA σ σ') := by
  obtain ⟨hT, ⟨h4, h5, h6⟩, hs, hE⟩ := h
  unfold tw_P_X6_fail
  refine pu_jn0 (pu_if (fun c1 => ?_) (fun c1 => ?_))
  · cases E with
    | none => exact absurd hE.1 c1
    | some e => exact pu_some ⟨⟨hT, ⟨h4, h5, h6⟩, hs, hE⟩, pu_fA_refl⟩
  · have c1 := Classical.not_not.mp c1
    cases E with
    | some e => exact absurd (hE.1.symm.trans c1) hE.2.1
    | none =>
      refine pu_lt (pu_lt (pu_some ⟨⟨pu_cT_up (pu_cT_up hT (by decide)) (by decide), ⟨(pu_u400 (by decide)).trans ((pu_u400 (by decide)).trans h4), (pu_u400 (by decide)).trans ((pu_u400 (by decide)).trans h5), (pu_u400 (by decide)).trans ((pu_u400 (by decide)).trans h6)⟩, hs, (pu_u400 (by decide)).trans pu_u400s, hc, pu_u400s⟩, pu_fA_trans (pu_fA_up (by decide)) (pu_fA_up (by decide))⟩))
theorem pu_lenW {w : Nat} (hw : w < 21) : tw_len.getD w 0 ≤ 5 := of_decide_eq_true (tw_rng (n := 21) (p := fun w => decide (tw_len.getD w 0 ≤ 5)) (by decide +kernel) w hw)
theorem pu_tk4 {B : Nat → Nat} {L s : Nat} : pu_tk B L s < 4 := by
  unfold pu_tk
  split
  · rcases pu_kdb3 (b := B s) with z | z | z <;> omega
  · decide
theorem pu_tk0 {B : Nat → Nat} {L s : Nat} (h : pu_tk B L s ≠ 0) : s < L := by
  unfold pu_tk at h
  by_cases c : s < L
  · exact c
  · rw [if_neg c] at h; exact absurd rfl h
theorem pu_cisW {w : Nat} (h : pu_cL B L s E σ) (hw : w < 21) (hn : 2000 < n) : tw_P_X6_isWord n w σ = some (pu_b1 (pu_isW B L s w)) := by
  obtain ⟨⟨h3, hL6, hB⟩, ⟨h4, h5, h6⟩, hs, hE⟩ := h
  obtain ⟨t1, t2, t3, -, -⟩ := pu_te_rng (B := B) hs
  have hl := pu_lenW hw
  have htk := pu_tk4 (B := B) (L := L) (s := s)
  suffices hq : pu_wp (tw_P_X6_isWord n w σ) (fun r => r = pu_b1 (pu_isW B L s w)) by
    obtain ⟨r, hr, e⟩ := hq
    rw [hr, e]
  have hno : ¬ pu_isW B L s w = true → (0 : Int32) = pu_b1 (pu_isW B L s w) := fun z => by
    cases e : pu_isW B L s w with
    | false => rfl
    | true => exact absurd e z
  unfold tw_P_X6_isWord
  rw [h6, h5, h4, pu_sub t1]
  refine pu_jn (R := fun _ => ¬ pu_isW B L s w = true) (fun u hu => pu_ck rfl (pu_some (hno hu))) (fun f hf => ?_)
  refine pu_if (fun c1 => ?_) (fun c1 => ?_)
  · exact hf () (fun z => c1 (by rw [(pu_isW_iff.mp z).1]; rfl))
  have c1 := (pu_eq (b := 1) (by omega) (by decide)).mp (Classical.not_not.mp c1)
  refine pu_if (fun c2 => ?_) (fun c2 => ?_) <;> rw [pu_eq (by omega) (by omega)] at c2
  rotate_left
  · exact hf () (fun z => c2 (pu_isW_iff.mp z).2.1)
  refine pu_lt ?_
  refine pu_lp (J := fun x => ∃ i, i ≤ tw_len.getD w 0 ∧ x = Int32.ofNat i ∧ ∀ j, j < i → Int32.ofNat (B (s + j)) = (tw_byt.getD w []).getD j 0) (m := fun x => 10 - x.toNatClampNeg) ?_ n _ (by show 10 - _ < n; omega) ⟨0, by omega, rfl, fun j hj => absurd hj (Nat.not_lt_zero _)⟩
  rintro k5 ii ⟨i, hi, e1, hm⟩ hk5
  subst e1
  refine pu_if (fun c3 => ?_) (fun c3 => ?_) <;> rw [pu_le (by omega) (by omega)] at c3
  · refine pu_ck rfl (pu_some ?_)
    rw [pu_isW_iff.mpr ⟨c1, c2, fun j hj => hm j (by omega)⟩]
    rfl
  have hsi : s + i < L := by omega
  rw [pu_add]
  refine pu_bde (pu_get (th := 401) (i := s + i) (N := 600) pu_l402 (by decide) (by omega)) (pu_ck (pu_ok (by omega) (by omega)) ?_)
  rw [show σ (401 + 1) (s + i) = Int32.ofNat (B (s + i)) from (hB _ hsi).1, pu_n (show i < 2147483648 by omega)]
  refine pu_if (fun c4 => ?_) (fun c4 => ?_)
  · refine pu_lt ?_
    have em : Int32.ofNat i + (1 : Int32) = Int32.ofNat (i + 1) := pu_add i 1
    rw [em]
    refine hk5 _ ⟨i + 1, by omega, rfl, fun j hj => ?_⟩ ?_
    · by_cases e : j = i
      · subst e; exact c4
      · exact hm j (by omega)
    · rw [pu_n (by omega), pu_n (by omega)]
      omega
  · exact pu_ck rfl (pu_some (hno (fun z => c4 ((pu_isW_iff.mp z).2.2 i (by omega)))))
theorem pu_ctakeW {w : Nat} (h : pu_cL B L s E σ) (hw : w < 21) (hn : 2000 < n) : pu_wp (tw_P_X6_takeWord n w σ) (fun σ' => pu_cL B L (pu_nx B L s) (if pu_isW B L s w = true then E else pu_or E (-2) s) σ' ∧ pu_fA σ σ') := by
  unfold tw_P_X6_takeWord
  refine pu_bde (pu_cisW h hw hn) ?_
  refine pu_jn (R := fun t => pu_cL B L s (if pu_isW B L s w = true then E else pu_or E (-2) s) t ∧ pu_fA σ t) (fun t ht => ?_) (fun f hf => ?_)
  · exact pu_bd (pu_cadv ht.1 hn) (fun t' ht' => pu_some ⟨ht'.1, pu_fA_trans ht.2 ht'.2⟩)
  refine pu_if (fun c => ?_) (fun c => ?_) <;> rw [pu_b1_0] at c
  · refine hf _ ⟨?_, pu_fA_refl⟩
    rw [if_pos (pu_bF c)]
    exact h
  · have c := Classical.not_not.mp c
    rw [h.2.1.1]
    refine pu_bd (pu_cfail (o := s) h (by decide)) (fun t ht => hf _ ⟨?_, ht.2⟩)
    rw [if_neg (by rw [c]; decide)]
    exact ht.1
/-- the next sign is a semicolon -/
def pu_semi (B : Nat → Nat) (L s : Nat) : Bool := decide (s < L ∧ B s = 59)
theorem pu_ctakeS (h : pu_cL B L s E σ) (hn : 2000 < n) : pu_wp (tw_P_X6_takeSemicolon n σ) (fun σ' => pu_cL B L (pu_nx B L s) (if pu_semi B L s = true then E else pu_or E (-2) s) σ' ∧ pu_fA σ σ') := by
  have htk := pu_tk4 (B := B) (L := L) (s := s)
  obtain ⟨⟨h3, hL6, hB⟩, ⟨h4, h5, h6⟩, hs, hE⟩ := id h
  unfold tw_P_X6_takeSemicolon
  refine pu_jn (R := fun t => pu_cL B L s (if pu_semi B L s = true then E else pu_or E (-2) s) t ∧ pu_fA σ t) (fun t ht => ?_) (fun f hf => ?_)
  · exact pu_bd (pu_cadv ht.1 hn) (fun t' ht' => pu_some ⟨ht'.1, pu_fA_trans ht.2 ht'.2⟩)
  refine pu_jn (R := fun _ => ¬ pu_semi B L s = true) (fun u hu => ?_) (fun g hg => ?_)
  · have hu : ¬ pu_semi B L s = true := hu
    rw [h4]
    refine pu_bd (pu_cfail (o := s) h (by decide)) (fun t ht => hf _ ⟨?_, ht.2⟩)
    rw [if_neg hu]
    exact ht.1
  refine pu_if (fun c => ?_) (fun c => ?_) <;> rw [h6] at c
  · refine hg () (fun z => c ?_)
    obtain ⟨z1, z2⟩ := of_decide_eq_true z
    have : pu_tk B L s = 3 := by unfold pu_tk; rw [if_pos z1, z2]; rfl
    rw [this]; rfl
  have c := (pu_eq (b := 3) (by omega) (by decide)).mp (Classical.not_not.mp c)
  have hsL : s < L := pu_tk0 (B := B) (by omega)
  obtain ⟨z1, z2⟩ := hB s hsL
  rw [h4]
  refine pu_bde (pu_get (th := 401) (i := s) (N := 600) pu_l402 (by decide) (by omega)) ?_
  rw [show σ (401 + 1) s = Int32.ofNat (B s) from z1]
  refine pu_if (fun c2 => ?_) (fun c2 => ?_) <;> rw [show (59 : Int32) = Int32.ofNat 59 from rfl, pu_eq (by omega) (by decide)] at c2
  · refine hf _ ⟨?_, pu_fA_refl⟩
    rw [if_pos (show pu_semi B L s = true from decide_eq_true ⟨hsL, c2⟩)]
    exact h
  · exact hg () (fun z => c2 (of_decide_eq_true z).2)
theorem pu_dig {b : Nat} (h : pu_kdb b = 2) : 48 ≤ b ∧ b ≤ 57 := by
  unfold pu_kdb at h
  by_cases c1 : 97 ≤ b ∧ b ≤ 122
  · rw [if_pos c1] at h; cases h
  · rw [if_neg c1] at h
    by_cases c2 : 48 ≤ b ∧ b ≤ 57
    · exact c2
    · rw [if_neg c2] at h; cases h
theorem pu_dig2 {b : Nat} (h : 48 ≤ b ∧ b ≤ 57) : pu_kdb b = 2 := by
  unfold pu_kdb
  rw [if_neg (by omega), if_pos h]
theorem pu_let {b : Nat} : pu_kdb b = 1 ↔ 97 ≤ b ∧ b ≤ 122 := by
  unfold pu_kdb
  by_cases c1 : 97 ≤ b ∧ b ≤ 122
  · rw [if_pos c1]; exact ⟨fun _ => c1, fun _ => rfl⟩
  · rw [if_neg c1]
    refine ⟨fun z => ?_, fun z => absurd z c1⟩
    split at z <;> cases z
def pu_cap (v : Nat) : Nat := min 1000 v
/-- a number of the class -/
def pu_numOk (B : Nat → Nat) (L s : Nat) (lo hi : Int) : Prop := pu_tk B L s = 2 ∧ lo ≤ (pu_cap (pu_num B L s) : Int) ∧ (pu_cap (pu_num B L s) : Int) ≤ hi
theorem pu_ctakeN {lo hi : Int32} (h : pu_cL B L s E σ) (hn : 2000 < n) : pu_wp (tw_P_X6_takeNumber n lo hi σ) (fun r => (pu_numOk B L s lo.toInt hi.toInt → r.1 = Int32.ofNat (pu_cap (pu_num B L s)) ∧ pu_cL B L (pu_nx B L s) E r.2) ∧ (¬ pu_numOk B L s lo.toInt hi.toInt → r.1 = lo ∧ pu_cL B L s (pu_or E (if pu_tk B L s = 2 then -3 else -2) s) r.2) ∧ pu_fA σ r.2) := by
  have htk := pu_tk4 (B := B) (L := L) (s := s)
  obtain ⟨⟨h3, hL6, hB⟩, ⟨h4, h5, h6⟩, hs, hE⟩ := id h
  obtain ⟨t1, t2, t3, t4, -⟩ := pu_te_rng (B := B) hs
  unfold tw_P_X6_takeNumber
  refine pu_if (fun c => ?_) (fun c => ?_) <;> rw [h6, show (2 : Int32) = Int32.ofNat 2 from rfl, pu_eq (by omega) (by decide)] at c
  rotate_left
  · rw [h4]
    refine pu_bd (pu_cfail (o := s) h (by decide)) (fun t ht => pu_some ⟨fun z => absurd z.1 c, fun _ => ⟨rfl, ?_⟩, ht.2⟩)
    rw [if_neg c]
    exact ht.1
  rw [h4]
  refine pu_lt (pu_lt ?_)
  refine pu_lp (J := fun x => ∃ i, s + i ≤ pu_te B L s ∧ x.2 = Int32.ofNat (s + i) ∧ x.1 = Int32.ofNat (pu_cap (pu_nv B s i))) (m := fun x => 700 - x.2.toNatClampNeg) ?_ n _ (by show 700 - _ < n; omega) ⟨0, by omega, rfl, rfl⟩
  rintro k4 ⟨vv, ii⟩ ⟨i, hie, e1, e2⟩ hk4
  dsimp only [] at e1 e2
  subst e1; subst e2
  dsimp only []
  have hcap : pu_cap (pu_nv B s i) ≤ 1000 := Nat.min_le_left _ _
  refine pu_if (fun c2 => ?_) (fun c2 => ?_) <;> rw [h5, pu_le (by omega) (by omega)] at c2
  · have hii : i = pu_te B L s - s := by omega
    have hnum : pu_nv B s i = pu_num B L s := by rw [hii]; rfl
    rw [hnum] at hcap ⊢
    refine pu_jn (R := fun _ => ¬ pu_numOk B L s lo.toInt hi.toInt) (fun u hu => ?_) (fun f hf => ?_)
    · have hu : ¬ pu_numOk B L s lo.toInt hi.toInt := hu
      refine pu_bd (pu_cfail (o := s) h (by decide)) (fun t ht => pu_some ⟨fun z => absurd z hu, fun _ => ⟨rfl, ?_⟩, ht.2⟩)
      rw [if_pos c]
      exact ht.1
    refine pu_if (fun c3 => ?_) (fun c3 => ?_) <;> rw [Int32.lt_iff_toInt_lt, pu_toInt (by omega)] at c3
    · exact hf () (fun z => by have := z.2.1; omega)
    refine pu_if (fun c4 => ?_) (fun c4 => ?_) <;> rw [Int32.le_iff_toInt_le, pu_toInt (by omega)] at c4
    · have hok : pu_numOk B L s lo.toInt hi.toInt := ⟨c, by omega, c4⟩
      exact pu_bd (pu_cadv h hn) (fun t ht => pu_some ⟨fun _ => ⟨rfl, ht.1⟩, fun z => absurd hok z, ht.2⟩)
    · exact hf () (fun z => c4 z.2.2)
  have hsi : s + i < L := by omega
  have hd := pu_dig ((t4 (s + i) (by omega) (by omega)).trans c)
  refine pu_bde (pu_get (th := 401) (i := s + i) (N := 600) pu_l402 (by decide) (by omega)) ?_
  rw [show σ (401 + 1) (s + i) = Int32.ofNat (B (s + i)) from (hB _ hsi).1]
  have ev : (10 : Int32) * Int32.ofNat (pu_cap (pu_nv B s i)) + Int32.ofNat (B (s + i)) - (48 : Int32) = Int32.ofNat (10 * pu_cap (pu_nv B s i) + (B (s + i) - 48)) := by
    rw [show (10 : Int32) * Int32.ofNat (pu_cap (pu_nv B s i)) = Int32.ofNat (10 * pu_cap (pu_nv B s i)) from pu_mul 10 _, pu_add, show (48 : Int32) = Int32.ofNat 48 from rfl, pu_sub (by omega)]
    congr 1
    omega
  rw [ev]
  have hmin : (if Int32.ofNat (10 * pu_cap (pu_nv B s i) + (B (s + i) - 48)) < (1000 : Int32) then Int32.ofNat (10 * pu_cap (pu_nv B s i) + (B (s + i) - 48)) else (1000 : Int32)) = Int32.ofNat (pu_cap (pu_nv B s (i + 1))) := by
    have hnvS : pu_nv B s (i + 1) = min 100000000 (10 * pu_nv B s i + (B (s + i) - 48)) := rfl
    have hS : pu_cap (pu_nv B s (i + 1)) = min 1000 (10 * pu_cap (pu_nv B s i) + (B (s + i) - 48)) := by
      rw [hnvS]
      unfold pu_cap
      omega
    rw [hS]
    have c1000 : Int32.ofNat (10 * pu_cap (pu_nv B s i) + (B (s + i) - 48)) < (1000 : Int32) ↔ 10 * pu_cap (pu_nv B s i) + (B (s + i) - 48) < 1000 := pu_ltn (b := 1000) (by omega) (by decide)
    by_cases c5 : 10 * pu_cap (pu_nv B s i) + (B (s + i) - 48) < 1000
    · rw [if_pos (c1000.mpr c5)]
      congr 1
      omega
    · rw [if_neg (fun z => c5 (c1000.mp z)), show min 1000 (10 * pu_cap (pu_nv B s i) + (B (s + i) - 48)) = 1000 from by omega]
      rfl
  rw [hmin]
  refine pu_lt (pu_lt ?_)
  have em : Int32.ofNat (s + i) + (1 : Int32) = Int32.ofNat (s + (i + 1)) := pu_add (s + i) 1
  rw [em]
  refine hk4 _ ⟨i + 1, by omega, rfl, rfl⟩ ?_
  show 700 - (Int32.ofNat (s + (i + 1))).toNatClampNeg < 700 - (Int32.ofNat (s + i)).toNatClampNeg
  rw [pu_n (by omega), pu_n (by omega)]
  omega
/-- a mark's letter ahead -/
def pu_isM (B : Nat → Nat) (L s : Nat) : Prop := pu_tk B L s = 1 ∧ pu_te B L s - s = 1 ∧ B s < 105
theorem pu_cmarkA (h : pu_cL B L s E σ) : pu_wp (tw_P_X6_markAhead σ) (fun r => (pu_isM B L s → r.1 = Int32.ofNat (B s - 97) ∧ pu_cL B L s E r.2) ∧ (¬ pu_isM B L s → r.1 = -1 ∧ pu_cL B L s (pu_or E (-2) s) r.2) ∧ pu_fA σ r.2) := by
  have htk := pu_tk4 (B := B) (L := L) (s := s)
  obtain ⟨⟨h3, hL6, hB⟩, ⟨h4, h5, h6⟩, hs, hE⟩ := id h
  obtain ⟨t1, t2, t3, t4, -⟩ := pu_te_rng (B := B) hs
  unfold tw_P_X6_markAhead
  have hgv : ∃ v, tw_P_X7_get 401 (σ 400 4) σ = some v ∧ (s < L → v = Int32.ofNat (B s)) := by
    by_cases hsL : s < L
    · rw [h4, pu_get (th := 401) (i := s) (N := 600) pu_l402 (by decide) (by omega)]
      exact ⟨_, rfl, fun _ => (hB s hsL).1⟩
    · obtain ⟨v, hv⟩ := pu_get_any (σ := σ) (th := 401) (x := σ 400 4) (by rw [pu_l402]; decide)
      exact ⟨v, hv, fun z => absurd z hsL⟩
  obtain ⟨v, hv, hvB⟩ := hgv
  refine pu_bde hv (pu_lt ?_)
  rw [h4, h5, pu_sub t1]
  refine pu_jn (R := fun _ => ¬ pu_isM B L s) (fun u hu => ?_) (fun f hf => ?_)
  · have hu : ¬ pu_isM B L s := hu
    refine pu_bd (pu_cfail (o := s) h (by decide)) (fun t ht => pu_some ⟨fun z => absurd z hu, fun _ => ⟨rfl, ht.1⟩, ht.2⟩)
  refine pu_if (fun c => ?_) (fun c => ?_) <;> rw [h6, show (1 : Int32) = Int32.ofNat 1 from rfl, pu_eq (by omega) (by decide)] at c
  · exact hf () (fun z => c z.1)
  have c := Classical.not_not.mp c
  have hsL : s < L := pu_tk0 (B := B) (by omega)
  have hlet := pu_let.mp ((t4 s (Nat.le_refl _) (t3 hsL)).trans c)
  refine pu_if (fun c2 => ?_) (fun c2 => ?_) <;> rw [show (1 : Int32) = Int32.ofNat 1 from rfl, pu_eq (by omega) (by decide)] at c2
  · exact hf () (fun z => c2 z.2.1)
  have c2 := Classical.not_not.mp c2
  have ev : v - (97 : Int32) = Int32.ofNat (B s - 97) := by rw [hvB hsL]; exact pu_sub (b := 97) (by omega)
  rw [ev]
  refine pu_if (fun c3 => ?_) (fun c3 => ?_) <;> rw [show (8 : Int32) = Int32.ofNat 8 from rfl, pu_le (by decide) (by omega)] at c3
  · exact hf () (fun z => by have := z.2.2; omega)
  · have hm : pu_isM B L s := ⟨c, c2, by omega⟩
    exact pu_some ⟨fun _ => ⟨rfl, h⟩, fun z => absurd hm z, pu_fA_refl⟩
end COPS
