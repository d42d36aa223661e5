/-! the reference's reader, step by step -/
section ROPS
variable {σ : tw_Sg} {B : Nat → Nat} {L s n : Nat} {E : Option (Int32 × Nat)}
def pu_eRr (E : Option (Int32 × Nat)) (σ : tw_Sg) : Prop := match E with
  | none => σ 442 5 = 0 ∧ σ 442 6 = -1
  | some e => σ 442 5 = e.1 ∧ e.1 ≠ 0 ∧ σ 442 6 = Int32.ofNat e.2
def pu_rT (B : Nat → Nat) (L : Nat) (σ : tw_Sg) : Prop := σ 442 3 = Int32.ofNat L ∧ L ≤ 600 ∧ ∀ i, i < L → σ 443 i = Int32.ofNat (B i) ∧ B i < 256
/-- the next token is at s (if there is no error) -/
def pu_rL (B : Nat → Nat) (L s : Nat) (E : Option (Int32 × Nat)) (σ : tw_Sg) : Prop := pu_rT B L σ ∧ pu_eRr E σ ∧ (E = none → s ≤ L ∧ ∃ p, p ≤ L ∧ σ 442 4 = Int32.ofNat p ∧ pu_sk B L p = s)
/-- reading stands just at s -/
def pu_rAt (B : Nat → Nat) (L s : Nat) (σ : tw_Sg) : Prop := pu_rL B L s none σ ∧ σ 442 4 = Int32.ofNat s
def pu_fB (σ σ' : tw_Sg) : Prop := (∀ k, k ≠ 442 → σ' k = σ k) ∧ ∀ i, i ≠ 4 → i ≠ 5 → i ≠ 6 → i ≠ 12 → σ' 442 i = σ 442 i
theorem pu_fB_refl {σ : tw_Sg} : pu_fB σ σ := ⟨fun _ _ => rfl, fun _ _ _ _ _ => rfl⟩
theorem pu_fB_trans {σ σ' σ'' : tw_Sg} (h : pu_fB σ σ') (h' : pu_fB σ' σ'') : pu_fB σ σ'' := ⟨fun k hk => (h'.1 k hk).trans (h.1 k hk), fun i h1 h2 h3 h4 => (h'.2 i h1 h2 h3 h4).trans (h.2 i h1 h2 h3 h4)⟩
theorem pu_fB_up {σ : tw_Sg} {i : Nat} {x : Int32} (hi : i = 4 ∨ i = 5 ∨ i = 6 ∨ i = 12) : pu_fB σ (tw_up σ 442 i x) := ⟨fun k hk => tw_up_n hk, fun j h1 h2 h3 h4 => by rw [tw_up_s, pu_upd_n (by omega)]⟩
theorem pu_u442 {σ : tw_Sg} {i j : Nat} {x : Int32} (h : j ≠ i) : tw_up σ 442 i x 442 j = σ 442 j := by rw [tw_up_s, pu_upd_n h]
theorem pu_u442s {σ : tw_Sg} {i : Nat} {x : Int32} : tw_up σ 442 i x 442 i = x := by rw [tw_up_s, pu_upd_s]
theorem pu_eRr_up {i : Nat} {x : Int32} (h : pu_eRr E σ) (h5 : i ≠ 5) (h6 : i ≠ 6) : pu_eRr E (tw_up σ 442 i x) := by
  unfold pu_eRr at h ⊢
  rw [pu_u442 (fun e => h5 e.symm), pu_u442 (fun e => h6 e.symm)]
  exact h
theorem pu_rT_up {i : Nat} {x : Int32} (h : pu_rT B L σ) (h3 : i ≠ 3) : pu_rT B L (tw_up σ 442 i x) := by
  unfold pu_rT at h ⊢
  rw [pu_u442 (fun e => h3 e.symm), tw_up_n (show 443 ≠ 442 by decide)]
  exact h
theorem pu_rAt_up {i : Nat} {x : Int32} (h : pu_rAt B L s σ) (h3 : i ≠ 3) (h4 : i ≠ 4) (h5 : i ≠ 5) (h6 : i ≠ 6) : pu_rAt B L s (tw_up σ 442 i x) := by
  obtain ⟨⟨a1, a2, a3⟩, a4⟩ := h
  obtain ⟨b1, p, b2, b3, b4⟩ := a3 rfl
  exact ⟨⟨pu_rT_up a1 h3, pu_eRr_up a2 h5 h6, fun _ => ⟨b1, p, b2, (pu_u442 (fun e => h4 e.symm)).trans b3, b4⟩⟩, (pu_u442 (fun e => h4 e.symm)).trans a4⟩
/-- reading moved to p -/
theorem pu_rmv {p t : Nat} (h : pu_rL B L s none σ) (hp : p ≤ L) (ht : pu_sk B L p = t) : pu_rL B L t none (tw_up σ 442 4 (Int32.ofNat p)) := ⟨pu_rT_up h.1 (by decide), pu_eRr_up h.2.1 (by decide) (by decide), fun _ => ⟨by
  have := pu_sk_rng (B := B) (L := L) (L - p) p rfl hp
  rw [ht] at this
  exact this.2.1, p, hp, pu_u442s, ht⟩⟩
theorem pu_rL_any {t : Nat} {e : Int32 × Nat} (h : pu_rL B L s (some e) σ) : pu_rL B L t (some e) σ := ⟨h.1, h.2.1, fun z => by cases z⟩
theorem pu_byteAt {k : Nat} (h : pu_rT B L σ) (hk : k < 100000) : tw_P_X12_byteAt (Int32.ofNat k) σ = some (if k < L then Int32.ofNat (B k) else -1) := by
  obtain ⟨h3, hL, hB⟩ := h
  unfold tw_P_X12_byteAt
  dsimp only [tw_jn]
  rw [h3, pu_l443]
  by_cases c : k < L
  · rw [if_neg (by rw [pu_le (by omega) (by omega)]; omega), pu_ok (by omega) (by omega), pu_n (by omega), (hB k c).1, if_pos c]
    rfl
  · rw [if_pos ((pu_le (by omega) (by omega)).mpr (by omega)), if_neg c]
theorem pu_isGood (h : pu_eRr E σ) : tw_P_X12_isGood σ = some (if E = none then 1 else 0) := by
  unfold tw_P_X12_isGood
  dsimp only [tw_jn]
  cases E with
  | none =>
    rw [h.1, if_neg (fun z => z rfl), if_pos rfl]
    rfl
  | some e =>
    rw [h.1, if_pos h.2.1, if_neg (by intro z; cases z)]
    rfl
theorem pu_rrep {c : Int32} {o : Nat} (h : pu_rL B L s E σ) (hc : c ≠ 0) : pu_wp (tw_P_X12_report c (Int32.ofNat o) σ) (fun σ' => pu_rL B L s (pu_or E c o) σ' ∧ pu_fB σ σ') := by
  obtain ⟨hT, hE, hp⟩ := h
  unfold tw_P_X12_report
  refine pu_if (fun c1 => ?_) (fun c1 => ?_)
  · cases E with
    | some e => exact absurd (hE.1.symm.trans c1) hE.2.1
    | none =>
      exact pu_lt (pu_lt (pu_some ⟨⟨pu_rT_up (pu_rT_up hT (by decide)) (by decide), ⟨(pu_u442 (by decide)).trans pu_u442s, hc, pu_u442s⟩, fun z => by cases z⟩, pu_fB_trans (pu_fB_up (by decide)) (pu_fB_up (by decide))⟩))
  · cases E with
    | none => exact absurd hE.1 c1
    | some e => exact pu_some ⟨⟨hT, hE, hp⟩, pu_fB_refl⟩
def pu_nb1 (B : Nat → Nat) (L s : Nat) : Int32 := if s < L then Int32.ofNat (B s) else -1
theorem pu_ahead (h : pu_rL B L s none σ) (hn : 2000 < n) : pu_wp (tw_P_X12_ahead n σ) (fun r => r.1 = pu_nb1 B L s ∧ pu_rAt B L s r.2 ∧ pu_fB σ r.2) := by
  obtain ⟨hT, hE, hp⟩ := h
  obtain ⟨hs, p, hpL, h4, hsk⟩ := hp rfl
  have hL := hT.2.1
  unfold tw_P_X12_ahead
  refine pu_lp (J := fun t => ∃ q, q ≤ L ∧ t 442 4 = Int32.ofNat q ∧ pu_sk B L q = s ∧ pu_rT B L t ∧ pu_eRr none t ∧ pu_fB σ t) (m := fun t => 700 - (t 442 4).toNatClampNeg) ?_ n _ (by omega) ⟨p, hpL, h4, hsk, hT, hE, pu_fB_refl⟩
  clear hT hE hp h4 hsk hpL
  rintro k2 t ⟨q, hq, h4, hsk, hT, hE, hf⟩ hk2
  rw [h4]
  refine pu_bde (pu_byteAt hT (by omega)) ?_
  refine pu_if (fun c => ?_) (fun c => ?_)
  · have hno : ¬ (q < L ∧ B q = 32) := fun z => c (by rw [if_pos z.1, z.2]; rfl)
    have hqs : q = s := by rw [← hsk]; exact (pu_sk_n hno).symm
    subst hqs
    rw [← h4]
    exact pu_bde (by rw [h4]; exact pu_byteAt hT (by omega)) (pu_some ⟨rfl, ⟨⟨hT, hE, fun _ => ⟨hs, q, hq, h4, hsk⟩⟩, h4⟩, hf⟩)
  · have c := Classical.not_not.mp c
    have hy : q < L ∧ B q = 32 := by
      by_cases z : q < L
      · rw [if_pos z] at c
        have := (hT.2.2 q z).2
        exact ⟨z, (pu_eq (b := 32) (by omega) (by decide)).mp c⟩
      · rw [if_neg z] at c
        exact absurd c (by decide)
    have em : Int32.ofNat q + (1 : Int32) = Int32.ofNat (q + 1) := pu_add q 1
    rw [em]
    refine pu_lt (hk2 _ ⟨q + 1, by omega, pu_u442s, by rw [← hsk]; exact (pu_sk_y hy).symm, pu_rT_up hT (by decide), pu_eRr_up hE (by decide) (by decide), pu_fB_trans hf (pu_fB_up (by decide))⟩ ?_)
    rw [pu_u442s, h4, pu_n (by omega), pu_n (by omega)]
    omega
theorem pu_bytW {w j : Nat} (hw : w < 21) (hj : j < tw_len.getD w 0) : ∃ b : Nat, (tw_byt.getD w []).getD j 0 = Int32.ofNat b ∧ 97 ≤ b ∧ b ≤ 122 := by
  have h := tw_rng (n := 21) (p := fun w => (List.range (tw_len.getD w 0)).all (fun j => (List.range 26).any (fun b => decide ((tw_byt.getD w []).getD j 0 = Int32.ofNat (97 + b))))) (by decide +kernel) w hw
  have h2 := List.all_eq_true.mp h j (List.mem_range.mpr hj)
  obtain ⟨b, hb, e⟩ := List.any_eq_true.mp h2
  have := List.mem_range.mp hb
  exact ⟨97 + b, of_decide_eq_true e, by omega, by omega⟩
theorem pu_len1 {w : Nat} (hw : w < 21) : 0 < tw_len.getD w 0 := of_decide_eq_true (tw_rng (n := 21) (p := fun w => decide (0 < tw_len.getD w 0)) (by decide +kernel) w hw)
/-- all letters of the word there: it is the token if no letter follows -/
theorem pu_isW_all {w : Nat} (hw : w < 21) (hs : s ≤ L) (hB : ∀ i, i < L → B i < 256) (hm : ∀ j, j < tw_len.getD w 0 → s + j < L ∧ Int32.ofNat (B (s + j)) = (tw_byt.getD w []).getD j 0) : pu_isW B L s w = true ↔ ¬ (s + tw_len.getD w 0 < L ∧ 97 ≤ B (s + tw_len.getD w 0) ∧ B (s + tw_len.getD w 0) ≤ 122) := by
  have h0 := pu_len1 hw
  have hlet : ∀ j, j < tw_len.getD w 0 → pu_kdb (B (s + j)) = 1 := fun j hj => by
    obtain ⟨m1, m2⟩ := hm j hj
    obtain ⟨b, e, b1, b2⟩ := pu_bytW hw hj
    rw [e] at m2
    have := hB _ m1
    have m2 := (pu_eq (by omega) (by omega)).mp m2
    rw [m2]
    exact pu_let.mpr ⟨b1, b2⟩
  have hsL : s < L := by have := (hm 0 h0).1; omega
  have htk : pu_tk B L s = 1 := by unfold pu_tk; rw [if_pos hsL]; exact hlet 0 h0
  obtain ⟨t1, t2, t3, t4, t5⟩ := pu_te_rng (B := B) hs
  rw [htk] at t4 t5
  have t5 := t5 (by decide)
  have hge : s + tw_len.getD w 0 ≤ pu_te B L s := by
    rcases Nat.lt_or_ge (pu_te B L s) (s + tw_len.getD w 0) with z | z
    · exfalso
      have := hm (pu_te B L s - s) (by omega)
      have h2 := hlet (pu_te B L s - s) (by omega)
      rw [show s + (pu_te B L s - s) = pu_te B L s from by omega] at this h2
      exact t5 ⟨this.1, h2⟩
    · exact z
  rw [pu_isW_iff]
  constructor
  · rintro ⟨-, h2, -⟩ ⟨z1, z2⟩
    have : pu_te B L s = s + tw_len.getD w 0 := by omega
    rw [this] at t5
    exact t5 ⟨z1, pu_let.mpr z2⟩
  · intro hno
    refine ⟨htk, ?_, fun j hj => (hm j hj).2⟩
    rcases Nat.lt_or_ge (s + tw_len.getD w 0) (pu_te B L s) with z | z
    · have := t4 (s + tw_len.getD w 0) (by omega) z
      exact absurd ⟨by omega, pu_let.mp this⟩ hno
    · omega
theorem pu_rtakeW {w : Nat} (h : pu_rL B L s none σ) (hw : w < 21) (hn : 2000 < n) : pu_wp (tw_P_X12_takeWord n w σ) (fun r => r.1 = pu_b1 (pu_isW B L s w) ∧ (pu_isW B L s w = true → pu_rL B L (pu_nx B L s) none r.2) ∧ (¬ pu_isW B L s w = true → pu_rAt B L s r.2) ∧ pu_fB σ r.2) := by
  have hl := pu_lenW hw
  have hl0 := pu_len1 hw
  unfold tw_P_X12_takeWord
  refine pu_bde (pu_isGood h.2.1) (pu_ift pu_10 (pu_bd (pu_ahead h hn) (fun r hr => ?_)))
  obtain ⟨-, hA, hf⟩ := hr
  obtain ⟨⟨hT, hE, hp⟩, h4⟩ := id hA
  obtain ⟨hs, -⟩ := hp rfl
  have hL := hT.2.1
  have hB : ∀ i, i < L → B i < 256 := fun i hi => (hT.2.2 i hi).2
  have hno : ¬ pu_isW B L s w = true → ((0 : Int32), r.2).1 = pu_b1 (pu_isW B L s w) ∧ (pu_isW B L s w = true → pu_rL B L (pu_nx B L s) none ((0 : Int32), r.2).2) ∧ (¬ pu_isW B L s w = true → pu_rAt B L s ((0 : Int32), r.2).2) ∧ pu_fB σ ((0 : Int32), r.2).2 := fun z => ⟨by
    cases e : pu_isW B L s w with
    | false => rfl
    | true => exact absurd e z, fun y => absurd y z, fun _ => hA, hf⟩
  refine pu_lt ?_
  refine pu_lp (J := fun x => ∃ i, i ≤ tw_len.getD w 0 ∧ x = Int32.ofNat i ∧ ∀ j, j < i → s + j < L ∧ Int32.ofNat (B (s + j)) = (tw_byt.getD w []).getD j 0) (m := fun x => 10 - x.toNatClampNeg) ?_ n _ (by show 10 - _ < n; omega) ⟨0, by omega, rfl, fun j hj => absurd hj (Nat.not_lt_zero _)⟩
  rintro k5 ii ⟨i, hi, e1, hm⟩ hk5
  subst e1
  rw [h4, pu_add, pu_n (show i < 2147483648 by omega)]
  refine pu_jn (R := fun _ => i < tw_len.getD w 0 → ¬ pu_isW B L s w = true) (fun u hu => ?_) (fun f hf' => ?_)
  · have hu : i < tw_len.getD w 0 → ¬ pu_isW B L s w = true := hu
    refine pu_jn (R := fun _ => ¬ pu_isW B L s w = true) (fun u hz => pu_ck rfl (pu_some (hno hz))) (fun g hg => ?_)
    refine pu_if (fun c => ?_) (fun c => ?_) <;> rw [pu_ltn (by omega) (by omega)] at c
    · exact hg () (hu c)
    have hil : i = tw_len.getD w 0 := by omega
    subst hil
    have hall := pu_isW_all hw hs hB hm
    refine pu_bde (pu_byteAt hT (by omega)) (pu_bde pu_in_eq ?_)
    rw [show (97 : Int32).toInt = 97 from by decide, show (122 : Int32).toInt = 122 from by decide]
    by_cases c2 : s + tw_len.getD w 0 < L ∧ 97 ≤ B (s + tw_len.getD w 0) ∧ B (s + tw_len.getD w 0) ≤ 122
    · refine pu_iff ?_ (hg () (fun z => hall.mp z c2))
      have := hB _ c2.1
      rw [if_pos c2.1, pu_toInt (by omega), if_pos ⟨by omega, by omega⟩]
      exact pu_10
    · have hW := hall.mpr c2
      refine pu_ift ?_ ?_
      · rw [if_neg]
        intro z
        by_cases c3 : s + tw_len.getD w 0 < L
        · have := hB _ c3
          rw [if_pos c3, pu_toInt (by omega)] at z
          exact c2 ⟨c3, by omega, by omega⟩
        · rw [if_neg c3] at z
          exact absurd z.1 (by decide)
      have hte : pu_te B L s = s + tw_len.getD w 0 := by
        have := (pu_isW_iff.mp hW).2.1
        have := (pu_te_rng (B := B) hs).1
        omega
      have hle := (pu_te_rng (B := B) hs).2.1
      refine pu_lt (pu_ck rfl (pu_some ⟨by rw [hW]; rfl, fun _ => ?_, fun z => absurd hW z, pu_fB_trans hf (pu_fB_up (by decide))⟩))
      refine pu_rmv hA.1 (by omega) ?_
      rw [← hte]
      rfl
  refine pu_if (fun c => ?_) (fun c => ?_) <;> rw [pu_le (by omega) (by omega)] at c
  · exact hf' () (fun z => by omega)
  refine pu_bde (pu_byteAt hT (by omega)) (pu_ck (pu_ok (by omega) (by omega)) ?_)
  refine pu_if (fun c2 => ?_) (fun c2 => ?_)
  · refine hf' () (fun _ z => c2 ?_)
    obtain ⟨-, z2, z3⟩ := pu_isW_iff.mp z
    have := (pu_te_rng (B := B) hs).2.1
    rw [if_pos (by omega)]
    exact z3 i (by omega)
  · have c2 := Classical.not_not.mp c2
    have hsi : s + i < L := by
      by_cases z : s + i < L
      · exact z
      · rw [if_neg z] at c2
        obtain ⟨b, e, b1, b2⟩ := pu_bytW hw (show i < tw_len.getD w 0 by omega)
        rw [e] at c2
        exact absurd c2.symm (pu_nm1 (by omega))
    rw [if_pos hsi] at c2
    refine pu_lt ?_
    have em : Int32.ofNat i + (1 : Int32) = Int32.ofNat (i + 1) := pu_add i 1
    rw [em]
    refine hk5 _ ⟨i + 1, by omega, rfl, fun j hj => ?_⟩ ?_
    · by_cases e : j = i
      · subst e; exact ⟨hsi, c2⟩
      · exact hm j (by omega)
    · rw [pu_n (by omega), pu_n (by omega)]
      omega
theorem pu_rtakeW1 {w : Nat} {e : Int32 × Nat} (h : pu_rL B L s (some e) σ) : tw_P_X12_takeWord n w σ = some (0, σ) := by
  unfold tw_P_X12_takeWord
  rw [pu_isGood h.2.1]
  rfl
theorem pu_rexp (h : pu_rL B L s none σ) (hn : 2000 < n) : pu_wp (tw_P_X12_expect n (59 : Int32) σ) (fun σ' => (pu_semi B L s = true → pu_rL B L (pu_nx B L s) none σ') ∧ (¬ pu_semi B L s = true → pu_rL B L s (some (-2, s)) σ') ∧ pu_fB σ σ') := by
  unfold tw_P_X12_expect
  refine pu_bde (pu_isGood h.2.1) (pu_ift pu_10 (pu_bd (pu_ahead h hn) (fun r hr => ?_)))
  obtain ⟨h1, hA, hf⟩ := hr
  obtain ⟨⟨hT, hE, hp⟩, h4⟩ := id hA
  obtain ⟨hs, -⟩ := hp rfl
  have hL := hT.2.1
  refine pu_jn0 (pu_if (fun c => ?_) (fun c => ?_)) <;> rw [h1] at c
  · have hno : ¬ pu_semi B L s = true := fun z => by
      obtain ⟨z1, z2⟩ := of_decide_eq_true z
      refine c ?_
      unfold pu_nb1
      rw [if_pos z1, z2]
      rfl
    rw [h4]
    exact pu_bd (pu_rrep (o := s) hA.1 (by decide)) (fun t ht => pu_some ⟨fun z => absurd z hno, fun _ => ht.1, pu_fB_trans hf ht.2⟩)
  · have c := Classical.not_not.mp c
    unfold pu_nb1 at c
    have hsL : s < L := by
      by_cases z : s < L
      · exact z
      · rw [if_neg z] at c; exact absurd c (by decide)
    rw [if_pos hsL] at c
    have := (hT.2.2 s hsL).2
    have c := (pu_eq (b := 59) (by omega) (by decide)).mp c
    have hse : pu_semi B L s = true := decide_eq_true ⟨hsL, c⟩
    have hte : pu_te B L s = s + 1 := by unfold pu_te; rw [if_pos hsL, c]; rfl
    rw [h4, show Int32.ofNat s + (1 : Int32) = Int32.ofNat (s + 1) from pu_add s 1]
    refine pu_lt (pu_some ⟨fun _ => pu_rmv hA.1 (by omega) (by rw [← hte]; rfl), fun z => absurd hse z, pu_fB_trans hf (pu_fB_up (by decide))⟩)
theorem pu_rexp1 {e : Int32 × Nat} (h : pu_rL B L s (some e) σ) : tw_P_X12_expect n (59 : Int32) σ = some σ := by
  unfold tw_P_X12_expect
  rw [pu_isGood h.2.1]
  rfl
theorem pu_isDigit {k : Nat} (h : pu_rT B L σ) (hk : k < 100000) {v : Int32} (hv : v = if k < L then Int32.ofNat (B k) else -1) : tw_P_X12_isDigit v σ = some (if k < L ∧ pu_kdb (B k) = 2 then 1 else 0) := by
  unfold tw_P_X12_isDigit
  rw [pu_in_eq, show (48 : Int32).toInt = 48 from by decide, show (57 : Int32).toInt = 57 from by decide]
  dsimp only [tw_bd]
  by_cases c : k < L ∧ pu_kdb (B k) = 2
  · have := (h.2.2 k c.1).2
    obtain ⟨d1, d2⟩ := pu_dig c.2
    rw [if_pos c, hv, if_pos c.1, pu_toInt (by omega), if_pos ⟨by omega, by omega⟩]
    rfl
  · rw [if_neg c, if_neg]
    · rfl
    intro z
    by_cases c1 : k < L
    · have := (h.2.2 k c1).2
      rw [hv, if_pos c1, pu_toInt (by omega)] at z
      exact c ⟨c1, pu_dig2 ⟨by omega, by omega⟩⟩
    · rw [hv, if_neg c1] at z
      exact absurd z.1 (by decide)
def pu_numOkR (B : Nat → Nat) (L s : Nat) (lo hi : Int) : Prop := pu_tk B L s = 2 ∧ lo ≤ (pu_num B L s : Int) ∧ (pu_num B L s : Int) ≤ hi
theorem pu_rnum {lo hi : Int32} (h : pu_rL B L s none σ) (hn : 2000 < n) : pu_wp (tw_P_X12_number n lo hi σ) (fun r => (pu_numOkR B L s lo.toInt hi.toInt → r.1 = Int32.ofNat (pu_num B L s) ∧ pu_rL B L (pu_nx B L s) none r.2 ∧ r.2 442 12 = Int32.ofNat s) ∧ (¬ pu_numOkR B L s lo.toInt hi.toInt → pu_rL B L s (some (if pu_tk B L s = 2 then -3 else -2, s)) r.2) ∧ pu_fB σ r.2) := by
  unfold tw_P_X12_number
  refine pu_bde (pu_isGood h.2.1) (pu_ift pu_10 (pu_bd (pu_ahead h hn) (fun r hr => ?_)))
  obtain ⟨h1, hA, hf⟩ := hr
  obtain ⟨⟨hT, hE, hp⟩, h4⟩ := id hA
  obtain ⟨hs, -⟩ := hp rfl
  have hL := hT.2.1
  have htk2 : pu_tk B L s = 2 ↔ s < L ∧ pu_kdb (B s) = 2 := by
    unfold pu_tk
    by_cases c : s < L
    · rw [if_pos c]; exact ⟨fun z => ⟨c, z⟩, fun z => z.2⟩
    · rw [if_neg c]; exact ⟨fun z => absurd z (by decide), fun z => absurd z.1 c⟩
  refine pu_bde (pu_isDigit (k := s) hT (by omega) h1) ?_
  by_cases ctk : pu_tk B L s = 2
  rotate_left
  · rw [if_neg (fun z => ctk (htk2.mpr z)), h4]
    refine pu_iff (fun z => z rfl) (pu_bd (pu_rrep (o := s) hA.1 (by decide)) (fun t ht => pu_some ⟨fun z => absurd z.1 ctk, fun _ => ?_, pu_fB_trans hf ht.2⟩))
    rw [if_neg ctk]
    exact ht.1
  rw [if_pos (htk2.mp ctk), h4]
  refine pu_ift pu_10 ?_
  obtain ⟨t1, t2, t3, t4, t5⟩ := pu_te_rng (B := B) hs
  have t5 := t5 (by rw [ctk]; decide)
  rw [ctk] at t4 t5
  have hA2 : pu_rAt B L s (tw_up r.2 442 12 (Int32.ofNat s)) := pu_rAt_up hA (by decide) (by decide) (by decide) (by decide)
  have h12 : tw_up r.2 442 12 (Int32.ofNat s) 442 12 = Int32.ofNat s := pu_u442s
  have hf2 : pu_fB σ (tw_up r.2 442 12 (Int32.ofNat s)) := pu_fB_trans hf (pu_fB_up (by decide))
  refine pu_lt ?_
  generalize tw_up r.2 442 12 (Int32.ofNat s) = t at hA2 h12 hf2 ⊢
  refine pu_lt ?_
  refine pu_lp (J := fun x => ∃ i, s + i ≤ pu_te B L s ∧ x.1 = Int32.ofNat (pu_nv B s i) ∧ x.2 442 4 = Int32.ofNat (s + i) ∧ x.2 442 12 = Int32.ofNat s ∧ pu_rT B L x.2 ∧ pu_eRr none x.2 ∧ pu_fB σ x.2) (m := fun x => 700 - (x.2 442 4).toNatClampNeg) ?_ n _ (by show 700 - _ < n; omega) ⟨0, by omega, rfl, hA2.2, h12, hA2.1.1, hA2.1.2.1, hf2⟩
  clear hA2 h12 hf2 hA hT hE hp h4 hf h1
  rintro k7 ⟨vv, x⟩ ⟨i, hie, e1, x4, x12, hT, hE, hf⟩ hk7
  dsimp only [] at e1 x4 x12 hT hE hf
  subst e1
  dsimp only []
  have hnv := pu_nv_le (B := B) (s := s) i
  rw [x4]
  refine pu_bde (pu_byteAt hT (by omega)) (pu_bde (pu_isDigit (k := s + i) hT (by omega) rfl) ?_)
  by_cases cd : s + i < pu_te B L s
  · have hd : s + i < L ∧ pu_kdb (B (s + i)) = 2 := ⟨by omega, t4 _ (by omega) cd⟩
    rw [if_pos hd]
    refine pu_iff pu_10 (pu_bde (pu_byteAt hT (by omega)) ?_)
    rw [if_pos hd.1]
    obtain ⟨d1, d2⟩ := pu_dig hd.2
    have hb := (hT.2.2 _ hd.1).2
    have ev : (10 : Int32) * Int32.ofNat (pu_nv B s i) + Int32.ofNat (B (s + i)) - (48 : Int32) = Int32.ofNat (10 * pu_nv B s i + (B (s + i) - 48)) := by
      rw [show (10 : Int32) * Int32.ofNat (pu_nv B s i) = Int32.ofNat (10 * pu_nv B s i) from pu_mul 10 _, pu_add, show (48 : Int32) = Int32.ofNat 48 from rfl, pu_sub (by omega)]
      congr 1
      omega
    rw [ev]
    refine pu_bde pu_min ?_
    have hmin : (if Int32.ofNat (10 * pu_nv B s i + (B (s + i) - 48)) ≤ (100000000 : Int32) then Int32.ofNat (10 * pu_nv B s i + (B (s + i) - 48)) else (100000000 : Int32)) = Int32.ofNat (pu_nv B s (i + 1)) := by
      have hnvS : pu_nv B s (i + 1) = min 100000000 (10 * pu_nv B s i + (B (s + i) - 48)) := rfl
      rw [hnvS]
      have cM : Int32.ofNat (10 * pu_nv B s i + (B (s + i) - 48)) ≤ (100000000 : Int32) ↔ 10 * pu_nv B s i + (B (s + i) - 48) ≤ 100000000 := pu_le (b := 100000000) (by omega) (by decide)
      by_cases c5 : 10 * pu_nv B s i + (B (s + i) - 48) ≤ 100000000
      · rw [if_pos (cM.mpr c5)]
        congr 1
        omega
      · rw [if_neg (fun z => c5 (cM.mp z)), show min 100000000 (10 * pu_nv B s i + (B (s + i) - 48)) = 100000000 from by omega]
        rfl
    rw [hmin]
    refine pu_lt ?_
    have em : Int32.ofNat (s + i) + (1 : Int32) = Int32.ofNat (s + (i + 1)) := pu_add (s + i) 1
    rw [em]
    refine pu_lt (hk7 _ ⟨i + 1, by omega, rfl, pu_u442s (σ := x) (i := 4) (x := Int32.ofNat (s + (i + 1))), (pu_u442 (σ := x) (i := 4) (j := 12) (x := Int32.ofNat (s + (i + 1))) (by decide)).trans x12, pu_rT_up hT (by decide), pu_eRr_up hE (by decide) (by decide), pu_fB_trans hf (pu_fB_up (by decide))⟩ ?_)
    dsimp only []
    rw [pu_u442s, x4, pu_n (by omega), pu_n (by omega)]
    omega
  have hii : s + i = pu_te B L s := by omega
  rw [if_neg (show ¬ (s + i < L ∧ pu_kdb (B (s + i)) = 2) from fun z => by rw [hii] at z; exact t5 z)]
  have hnum : pu_nv B s i = pu_num B L s := by unfold pu_num; rw [← hii, Nat.add_sub_cancel_left]
  rw [hnum] at hnv ⊢
  have hX : pu_rL B L (pu_nx B L s) none x := ⟨hT, hE, fun _ => ⟨(pu_nx_rng (B := B) hs).2.1, s + i, by omega, x4, by rw [hii]; rfl⟩⟩
  refine pu_ift rfl (pu_bde pu_in_eq ?_)
  rw [pu_toInt (show pu_num B L s < 2147483648 by omega)]
  by_cases hok : lo.toInt ≤ (pu_num B L s : Int) ∧ (pu_num B L s : Int) ≤ hi.toInt
  · rw [if_pos hok]
    refine pu_jn0 (pu_ift pu_10 (pu_bde (pu_isGood hE) (pu_jn0 (pu_iff pu_10 (pu_some ⟨fun _ => ⟨rfl, hX, x12⟩, fun z => absurd ⟨ctk, hok⟩ z, hf⟩)))))
  · rw [if_neg hok, x12]
    refine pu_jn0 (pu_iff (fun z => z rfl) (pu_bd (pu_rrep (o := s) (c := -3) hX (by decide)) (fun y hy => ?_)))
    · have hy1 : pu_rL B L s (some (-3, s)) y := pu_rL_any hy.1
      refine pu_bde (pu_isGood hy1.2.1) (pu_jn0 (pu_ift rfl (pu_some ⟨fun z => absurd z.2 hok, fun _ => ?_, pu_fB_trans hf hy.2⟩)))
      rw [if_pos ctk]
      exact hy1
/-- a number in a range below 1000 is one for both -/
theorem pu_numOk_iff {lo hi : Int} (h : hi < 1000) : pu_numOk B L s lo hi ↔ pu_numOkR B L s lo hi := by
  unfold pu_numOk pu_numOkR pu_cap
  constructor
  · rintro ⟨h1, h2, h3⟩
    exact ⟨h1, by omega, by omega⟩
  · rintro ⟨h1, h2, h3⟩
    exact ⟨h1, by omega, by omega⟩
theorem pu_rnum1 {lo hi : Int32} {e : Int32 × Nat} (h : pu_rL B L s (some e) σ) : tw_P_X12_number n lo hi σ = some (0, σ) := by
  unfold tw_P_X12_number
  rw [pu_isGood h.2.1]
  rfl
theorem pu_rletter (h : pu_rL B L s none σ) (hn : 2000 < n) : pu_wp (tw_P_X12_letter n σ) (fun r => (pu_isM B L s → r.1 = Int32.ofNat (B s - 97) ∧ pu_rL B L (pu_nx B L s) none r.2 ∧ r.2 442 4 = Int32.ofNat (s + 1)) ∧ (¬ pu_isM B L s → r.1 = 0 ∧ pu_rL B L s (some (-2, s)) r.2) ∧ pu_fB σ r.2) := by
  unfold tw_P_X12_letter
  refine pu_bde (pu_isGood h.2.1) (pu_ift pu_10 (pu_bd (pu_ahead h hn) (fun r hr => ?_)))
  obtain ⟨h1, hA, hf⟩ := hr
  obtain ⟨⟨hT, hE, hp⟩, h4⟩ := id hA
  obtain ⟨hs, -⟩ := hp rfl
  have hL := hT.2.1
  obtain ⟨t1, t2, t3, t4, t5⟩ := pu_te_rng (B := B) hs
  refine pu_lt (pu_bde pu_in_eq ?_)
  rw [show (97 : Int32).toInt = 97 from by decide, show (104 : Int32).toInt = 104 from by decide, h1, h4]
  refine pu_jn (R := fun _ => ¬ pu_isM B L s) (fun u hu => ?_) (fun f hf' => ?_)
  · have hu : ¬ pu_isM B L s := hu
    exact pu_bd (pu_rrep (o := s) hA.1 (by decide)) (fun t ht => pu_some ⟨fun z => absurd z hu, fun _ => ⟨rfl, ht.1⟩, pu_fB_trans hf ht.2⟩)
  have hc : (97 ≤ (pu_nb1 B L s).toInt ∧ (pu_nb1 B L s).toInt ≤ 104) ↔ s < L ∧ 97 ≤ B s ∧ B s < 105 := by
    unfold pu_nb1
    by_cases c : s < L
    · have := (hT.2.2 s c).2
      rw [if_pos c, pu_toInt (by omega)]
      constructor
      · intro z; exact ⟨c, by omega, by omega⟩
      · intro z; omega
    · rw [if_neg c]
      constructor
      · intro z; exact absurd z.1 (by decide)
      · intro z; exact absurd z.1 c
  by_cases c : s < L ∧ 97 ≤ B s ∧ B s < 105
  rotate_left
  · rw [if_neg (fun z => c (hc.mp z))]
    refine pu_ift rfl (hf' () (fun z => c ?_))
    obtain ⟨z1, z2, z3⟩ := z
    have hsL : s < L := pu_tk0 (B := B) (by omega)
    have := pu_let.mp ((t4 s (Nat.le_refl _) (t3 hsL)).trans z1)
    exact ⟨hsL, this.1, z3⟩
  rw [if_pos (hc.mpr c), show Int32.ofNat s + (1 : Int32) = Int32.ofNat (s + 1) from pu_add s 1]
  have hk1 : pu_kdb (B s) = 1 := pu_let.mpr ⟨c.2.1, by omega⟩
  have htk : pu_tk B L s = 1 := by unfold pu_tk; rw [if_pos c.1]; exact hk1
  rw [htk] at t4 t5
  have t5 := t5 (by decide)
  have t3 := t3 c.1
  have hiff : pu_isM B L s ↔ ¬ (s + 1 < L ∧ 97 ≤ B (s + 1) ∧ B (s + 1) ≤ 122) := by
    constructor
    · rintro ⟨-, z2, -⟩ z
      have : pu_te B L s = s + 1 := by omega
      rw [this] at t5
      exact t5 ⟨z.1, pu_let.mpr z.2⟩
    · intro z
      refine ⟨htk, ?_, c.2.2⟩
      rcases Nat.lt_or_ge (s + 1) (pu_te B L s) with y | y
      · exact absurd ⟨by omega, pu_let.mp (t4 (s + 1) (by omega) y)⟩ z
      · omega
  refine pu_iff pu_10 (pu_bde (pu_byteAt hT (by omega)) (pu_bde pu_in_eq ?_))
  rw [show (97 : Int32).toInt = 97 from by decide, show (122 : Int32).toInt = 122 from by decide]
  by_cases c2 : s + 1 < L ∧ 97 ≤ B (s + 1) ∧ B (s + 1) ≤ 122
  · refine pu_iff ?_ (hf' () (fun z => hiff.mp z c2))
    have := (hT.2.2 _ c2.1).2
    rw [if_pos c2.1, pu_toInt (by omega), if_pos ⟨by omega, by omega⟩]
    exact pu_10
  · have hM := hiff.mpr c2
    refine pu_ift ?_ ?_
    · rw [if_neg]
      intro z
      by_cases c3 : s + 1 < L
      · have := (hT.2.2 _ c3).2
        rw [if_pos c3, pu_toInt (by omega)] at z
        exact c2 ⟨c3, by omega, by omega⟩
      · rw [if_neg c3] at z
        exact absurd z.1 (by decide)
    have hte : pu_te B L s = s + 1 := by have := hM.2.1; omega
    refine pu_lt (pu_some ⟨fun _ => ⟨?_, pu_rmv hA.1 (by omega) (by rw [← hte]; rfl), pu_u442s (σ := r.2) (i := 4) (x := Int32.ofNat (s + 1))⟩, fun z => absurd hM z, pu_fB_trans hf (pu_fB_up (by decide))⟩)
    show pu_nb1 B L s - (97 : Int32) = _
    unfold pu_nb1
    rw [if_pos c.1]
    exact pu_sub (b := 97) c.2.1
theorem pu_rletter1 {e : Int32 × Nat} (h : pu_rL B L s (some e) σ) : tw_P_X12_letter n σ = some (0, σ) := by
  unfold tw_P_X12_letter
  rw [pu_isGood h.2.1]
  rfl
end ROPS
