/-! regions and candidates: the reference -/
/-- the reference's row is a, and what it has laid is right -/
def pu_RL (σ : tw_Sg) (a : Nat → Int32) (w h nb nc : Nat) : Prop := σ 444 = a ∧ (σ 442 22 = 0 ∨ (σ 442 22 = 1 ∧ pu_ends σ a w h nb nc))
/-- what laying may change -/
def pu_RS (σ σ' : tw_Sg) : Prop := (∀ i, i ≠ 22 → σ' 442 i = σ 442 i) ∧ pu_fr pu_F11 σ σ'
theorem pu_RS_refl {σ : tw_Sg} : pu_RS σ σ := ⟨fun _ _ => rfl, pu_fr_refl⟩
theorem pu_RS_trans {σ σ' σ'' : tw_Sg} (h : pu_RS σ σ') (h' : pu_RS σ' σ'') : pu_RS σ σ'' := ⟨fun i hi => (h'.1 i hi).trans (h.1 i hi), pu_fr_trans h.2 h'.2⟩
theorem pu_RL_lay {σ : tw_Sg} {a : Nat → Int32} {w h nb nc n : Nat} (H : pu_WF a w h nb nc) (hR : pu_RL σ a w h nb nc) (hn : 1000 < n) : pu_wp (tw_P_X12_lay n σ) (fun σ' => σ' 442 22 = 1 ∧ pu_ends σ' a w h nb nc ∧ pu_RL σ' a w h nb nc ∧ pu_RS σ σ') := by
  obtain ⟨hm, hb, hcc, -⟩ := H
  obtain ⟨rfl, hI⟩ := hR
  refine pu_cons (pu_rlay hm hb hcc hn hI) (fun σ' h' => ?_)
  obtain ⟨h1, h2, h3, h4⟩ := h'
  exact ⟨h1, h2, ⟨h4 444 (by unfold pu_F11 pu_F10 pu_F9; omega), Or.inr ⟨h1, h2⟩⟩, h3, h4⟩
theorem pu_inRegion {σ : tw_Sg} {a : Nat → Int32} {w h nb nc q d : Nat} (H : pu_WF a w h nb nc) (h4 : σ 444 = a) (hE : pu_ends σ a w h nb nc) (hq : q < nc) (hd : d < w * h) : tw_P_X12_isInRegion (Int32.ofNat q) (Int32.ofNat d) σ = some (pu_bi (pu_Fw a w h nb q (pu_nl a q) d)) := by
  obtain ⟨hm, hb, hcc, -⟩ := H
  have hle := pu_wfm_le hm
  subst h4
  obtain ⟨-, hnc, hcq⟩ := id hcc
  obtain ⟨-, -, ⟨-, hnl⟩, -⟩ := hcq q hq
  have hnl : pu_nl (σ 444) q < 9 := hnl
  unfold tw_P_X12_isInRegion
  rw [pu_legs hcc hq]
  dsimp only [tw_bd]
  rw [pu_n (show q < 2147483648 by omega), pu_n (show pu_nl (σ 444) q < 2147483648 by omega), pu_l457, pu_lE9 (by omega), show 457 + 1 + 10 * q + 1 + 1 * pu_nl (σ 444) q = pu_En q (pu_nl (σ 444) q) from by unfold pu_En; omega, pu_lE (by omega) (by omega), pu_n (show d < 2147483648 by omega), hE q hq _ (Nat.le_refl _) d hd, pu_ok (by omega) (by omega), pu_ok (by omega) (by omega), pu_ok (by omega) (by omega), pu_bi_01]
  rfl
theorem pu_rfw {σ : tw_Sg} {a : Nat → Int32} {w h nb nc d n : Nat} (H : pu_WF a w h nb nc) (hR : pu_RL σ a w h nb nc) (hd : d < w * h) (hn : 1000 < n) : pu_wp (tw_P_X12_firstWithout n (Int32.ofNat d) σ) (fun r => r.1 = pu_eR (pu_first (pu_bad a w h nb d) nc) ∧ pu_RL r.2 a w h nb nc ∧ pu_RS σ r.2) := by
  unfold tw_P_X12_firstWithout
  refine pu_bd (pu_RL_lay H hR hn) (fun σ1 h1 => ?_)
  obtain ⟨-, hE, hL, hS⟩ := h1
  obtain ⟨h4, -⟩ := id hL
  obtain ⟨-, -, ⟨e3, hnc, hcq⟩, -⟩ := id H
  refine pu_lt ?_
  refine pu_lp (J := fun s => ∃ q, q ≤ nc ∧ s = Int32.ofNat q ∧ pu_first (pu_bad a w h nb d) q = none) (m := fun s => 10 - s.toNatClampNeg) ?_ n _ (by omega) ⟨0, by omega, rfl, rfl⟩
  rintro k3 qq ⟨q, hq, e1, hN⟩ hk3
  subst e1
  refine pu_ck (by rw [pu_l444]; exact pu_ok3) ?_
  refine pu_if (fun hc => ?_) (fun hc => ?_)
  · rw [pu_c3, h4, e3] at hc
    have hc := (pu_le (by omega) (by omega)).mp hc
    have : q = nc := by omega
    subst this
    refine pu_some (r := ((-1 : Int32), σ1)) ⟨?_, hL, hS⟩
    rw [hN]; rfl
  · rw [pu_c3, h4, e3] at hc
    have hc : q < nc := by rw [pu_le (by omega) (by omega)] at hc; omega
    obtain ⟨e0, -⟩ := hcq q hc
    have hclq : pu_cl q < 1028 := by unfold pu_cl; omega
    refine pu_bde pu_clueAt ?_
    have ea : Int32.ofNat (pu_cl q) + (0 : Int32) = Int32.ofNat (pu_cl q) := pu_add _ 0
    rw [ea, pu_l444]
    refine pu_ck (pu_ok (by omega) hclq) ?_
    rw [pu_n (show pu_cl q < 2147483648 by omega)]
    have em : Int32.ofNat q + (1 : Int32) = Int32.ofNat (q + 1) := pu_add q 1
    have hnx : pu_bad a w h nb d q = false → pu_wp (k3 (Int32.ofNat q + (1 : Int32))) (fun r => r.1 = pu_eR (pu_first (pu_bad a w h nb d) nc) ∧ pu_RL r.2 a w h nb nc ∧ pu_RS σ r.2) := fun hb => by
      rw [em]
      refine hk3 _ ⟨q + 1, by omega, rfl, pu_first_go hN hb⟩ ?_
      rw [pu_n (by omega), pu_n (by omega)]
      omega
    refine pu_jn0 (pu_if (fun hu => ?_) (fun hu => ?_))
    · rw [h4] at hu
      exact pu_lt (hnx (pu_B_f (fun z => hu z.1)))
    · rw [h4] at hu
      have hu := Classical.not_not.mp hu
      refine pu_bde (pu_inRegion H h4 hE hc hd) ?_
      refine pu_if (fun hz => ?_) (fun hz => ?_)
      · rw [pu_bi_0] at hz
        exact pu_lt (hnx (pu_B_f (fun z => hz z.2)))
      · have hz := pu_bi_0.mp (Classical.not_not.mp hz)
        refine pu_some (r := (Int32.ofNat q, σ1)) ⟨?_, hL, hS⟩
        rw [pu_first_at hN (pu_B_t ⟨hu, hz⟩) hc]; rfl
theorem pu_eRn {o : Option Nat} (h : ∀ q, o = some q → q < 1000) : pu_eR o = (-1 : Int32) ↔ o = none := by
  cases o with
  | none => exact ⟨fun _ => rfl, fun _ => rfl⟩
  | some q =>
    have := h q rfl
    refine ⟨fun z => ?_, fun z => absurd z (by simp)⟩
    have z : Int32.ofNat q = (-1 : Int32) := z
    exact absurd z (pu_nm1 (by omega))
def pu_b1 (b : Bool) : Int32 := if b then 1 else 0
theorem pu_b1_0 {b : Bool} : pu_b1 b = 0 ↔ b = false := by cases b <;> decide
theorem pu_b1_01 {b : Bool} : tw_01 (pu_b1 b) = true := by cases b <;> rfl
theorem pu_rcand {σ : tw_Sg} {a : Nat → Int32} {w h nb nc d n : Nat} (H : pu_WF a w h nb nc) (hR : pu_RL σ a w h nb nc) (hd : d < w * h) (hn : 1000 < n) : pu_wp (tw_P_X12_isCandidate n (Int32.ofNat d) σ) (fun r => r.1 = pu_b1 (pu_cand a w h nb nc d) ∧ pu_RL r.2 a w h nb nc ∧ pu_RS σ r.2) := by
  have hle := pu_wfm_le H.1
  have hnc := H.2.2.1.2.1
  unfold tw_P_X12_isCandidate
  refine pu_bde (pu_rland (by omega)) ?_
  rw [hR.1]
  refine pu_jn (R := fun s => s.1 = pu_b1 (pu_cand a w h nb nc d) ∧ pu_RL s.2 a w h nb nc ∧ pu_RS σ s.2) (fun s hs => ?_) (fun f hf => ?_)
  · refine pu_ck (by rw [hs.1]; exact pu_b1_01) (pu_some hs)
  · refine pu_jn (R := fun s => pu_cand a w h nb nc d = false ∧ pu_RL s a w h nb nc ∧ pu_RS σ s) (fun s hs => ?_) (fun g hg => ?_)
    · exact hf _ ⟨by rw [hs.1]; rfl, hs.2⟩
    · refine pu_if (fun hu => ?_) (fun hu => ?_)
      · have hu : pu_land a d = false := by
          cases e : pu_land a d with
          | false => rfl
          | true => rw [e] at hu; exact absurd hu (by decide)
        exact hg _ ⟨by unfold pu_cand; rw [hu]; rfl, hR, pu_RS_refl⟩
      · have hu : pu_land a d = true := by
          cases e : pu_land a d with
          | true => rfl
          | false => rw [e] at hu; exact absurd rfl hu
        refine pu_bd (pu_rfw H hR hd hn) (fun r hr => ?_)
        obtain ⟨r1, r2, r3⟩ := hr
        have hq : ∀ q, pu_first (pu_bad a w h nb d) nc = some q → q < 1000 := fun q z => by have := pu_first_lt z; omega
        refine pu_if (fun hz => ?_) (fun hz => ?_)
        · rw [r1, pu_eRn hq] at hz
          refine hg _ ⟨?_, r2, r3⟩
          unfold pu_cand
          cases e : pu_first (pu_bad a w h nb d) nc with
          | none => exact absurd e hz
          | some q => exact Bool.and_false _
        · have hz := Classical.not_not.mp hz
          rw [r1, pu_eRn hq] at hz
          refine hf _ ⟨?_, r2, r3⟩
          unfold pu_cand
          rw [hz, hu]; rfl
theorem pu_rleft {σ : tw_Sg} {a : Nat → Int32} {w h nb nc d n : Nat} (H : pu_WF a w h nb nc) (hR : pu_RL σ a w h nb nc) (hd : d < w * h) (hn : 1000 < n) : pu_wp (tw_P_X12_isLeft n (Int32.ofNat d) σ) (fun r => r.1 = pu_b1 (pu_left a w h nb nc d) ∧ pu_RL r.2 a w h nb nc ∧ pu_RS σ r.2) := by
  have hle := pu_wfm_le H.1
  have hnc := H.2.2.1.2.1
  have hdd := H.2.2.2.1.2.1 d (by omega)
  unfold tw_P_X12_isLeft
  have ea : (408 : Int32) + Int32.ofNat d = Int32.ofNat (408 + d) := pu_add 408 d
  rw [ea, pu_l444]
  refine pu_ck (pu_ok (by omega) (by omega)) ?_
  rw [pu_n (show 408 + d < 2147483648 by omega)]
  refine pu_jn (R := fun s => s.1 = pu_b1 (pu_left a w h nb nc d) ∧ pu_RL s.2 a w h nb nc ∧ pu_RS σ s.2) (fun s hs => ?_) (fun f hf => ?_)
  · refine pu_ck (by rw [hs.1]; exact pu_b1_01) (pu_some hs)
  · refine pu_jn (R := fun s => pu_left a w h nb nc d = false ∧ pu_RL s a w h nb nc ∧ pu_RS σ s) (fun s hs => ?_) (fun g hg => ?_)
    · exact hf _ ⟨by rw [hs.1]; rfl, hs.2⟩
    · refine pu_if (fun hu => ?_) (fun hu => ?_)
      · rw [hR.1] at hu
        have hu : a (408 + d) = 1 := hdd.elim (fun z => absurd z hu) id
        refine hg _ ⟨?_, hR, pu_RS_refl⟩
        unfold pu_left pu_dug
        rw [decide_eq_true hu]
        exact Bool.and_false _
      · rw [hR.1] at hu
        have hu := Classical.not_not.mp hu
        have hnd : pu_dug a d = false := decide_eq_false (by rw [hu]; decide)
        have hlc : pu_left a w h nb nc d = pu_cand a w h nb nc d := by unfold pu_left; rw [hnd, Bool.not_false, Bool.and_true]
        refine pu_bd (pu_rcand H hR hd hn) (fun r hr => ?_)
        obtain ⟨r1, r2, r3⟩ := hr
        refine pu_if (fun hz => ?_) (fun hz => ?_)
        · rw [r1, pu_b1_0] at hz
          exact hg _ ⟨by rw [hlc]; exact hz, r2, r3⟩
        · rw [r1, pu_b1_0] at hz
          have hz : pu_cand a w h nb nc d = true := by
            cases e : pu_cand a w h nb nc d with
            | true => rfl
            | false => exact absurd e hz
          exact hf _ ⟨by rw [hlc, hz]; rfl, r2, r3⟩
/-- how many below m -/
def pu_sum (p : Nat → Bool) : Nat → Nat
  | 0 => 0
  | m + 1 => pu_sum p m + (if p m then 1 else 0)
theorem pu_sum_S {p : Nat → Bool} {m : Nat} : pu_sum p (m + 1) = pu_sum p m + (if p m then 1 else 0) := rfl
theorem pu_sum_le {p : Nat → Bool} : ∀ m, pu_sum p m ≤ m
  | 0 => Nat.le_refl _
  | m + 1 => by
    rw [pu_sum_S]
    have := pu_sum_le (p := p) m
    split <;> omega
noncomputable def pu_cset (a : Nat → Int32) (w h nb nc x : Nat) : Nat → Bool := if x = 0 then pu_cand a w h nb nc else if x = 1 then pu_left a w h nb nc else pu_dug a
theorem pu_rcount {σ : tw_Sg} {a : Nat → Int32} {w h nb nc x n : Nat} (H : pu_WF a w h nb nc) (hR : pu_RL σ a w h nb nc) (hx : x < 3) (hn : 1000 < n) : pu_wp (tw_P_X12_count n (Int32.ofNat x) σ) (fun r => r.1 = Int32.ofNat (pu_sum (pu_cset a w h nb nc x) (w * h)) ∧ pu_RL r.2 a w h nb nc ∧ pu_RS σ r.2) := by
  have hle := pu_wfm_le H.1
  unfold tw_P_X12_count
  refine pu_lt (pu_lt ?_)
  refine pu_lp (J := fun s => ∃ c, c ≤ w * h ∧ s.2.1 = Int32.ofNat c ∧ s.1 = Int32.ofNat (pu_sum (pu_cset a w h nb nc x) c) ∧ pu_RL s.2.2 a w h nb nc ∧ pu_RS σ s.2.2) (m := fun s => w * h - s.2.1.toNatClampNeg) ?_ n _ (by show w * h - _ < n; omega) ⟨0, by omega, rfl, rfl, hR, pu_RS_refl⟩
  rintro k4 ⟨tt, cc, σ1⟩ ⟨c, hc, e1, e2, hL, hS⟩ hk4
  dsimp only [] at e1 e2 hL hS
  subst e1; subst e2
  dsimp only []
  refine pu_bde (pu_rcells (σ := σ1) (w := w) (h := h) (by rw [hL.1]; exact H.1)) ?_
  refine pu_if (fun hc1 => ?_) (fun hc1 => ?_)
  · have hc1 := (pu_le (by omega) (by omega)).mp hc1
    have : c = w * h := by omega
    subst this
    exact pu_some (r := (_, σ1)) ⟨rfl, hL, hS⟩
  · have hc1 : c < w * h := by rw [pu_le (by omega) (by omega)] at hc1; omega
    have hdd := H.2.2.2.1.2.1 c (by omega)
    refine pu_jn (R := fun s => s.1 = pu_b1 (pu_cset a w h nb nc x c) ∧ pu_RL s.2 a w h nb nc ∧ pu_RS σ s.2) (fun s hs => ?_) (fun f hf => ?_)
    · obtain ⟨s1, s2, s3⟩ := hs
      refine pu_lt (pu_lt ?_)
      have em : Int32.ofNat c + (1 : Int32) = Int32.ofNat (c + 1) := pu_add c 1
      have et : Int32.ofNat (pu_sum (pu_cset a w h nb nc x) c) + s.1 = Int32.ofNat (pu_sum (pu_cset a w h nb nc x) (c + 1)) := by
        rw [s1, pu_sum_S]
        cases pu_cset a w h nb nc x c
        · exact pu_add _ 0
        · exact pu_add _ 1
      rw [em, et]
      refine hk4 _ ⟨c + 1, by omega, rfl, rfl, s2, s3⟩ ?_
      show w * h - (Int32.ofNat (c + 1)).toNatClampNeg < w * h - (Int32.ofNat c).toNatClampNeg
      rw [pu_n (by omega), pu_n (by omega)]
      omega
    · refine pu_jn (R := fun s => pu_cset a w h nb nc x c = false ∧ pu_RL s a w h nb nc ∧ pu_RS σ s) (fun s hs => hf _ ⟨by rw [hs.1]; rfl, hs.2⟩) (fun g hg => ?_)
      refine pu_jn (R := fun s => pu_cset a w h nb nc x c = true ∧ pu_RL s a w h nb nc ∧ pu_RS σ s) (fun s hs => hf _ ⟨by rw [hs.1]; rfl, hs.2⟩) (fun g2 hg2 => ?_)
      have hx0 : (Int32.ofNat x = 0) ↔ x = 0 := pu_eq (b := 0) (by omega) (by omega)
      have hx1 : (Int32.ofNat x = (1 : Int32)) ↔ x = 1 := pu_eq (b := 1) (by omega) (by omega)
      have hbool : ∀ b : Bool, ¬ b = false → b = true := fun b hb => by cases b; exact absurd rfl hb; rfl
      refine pu_if (fun hz => ?_) (fun hz => ?_)
      · rw [hx0] at hz
        refine pu_if (fun hy => ?_) (fun hy => ?_)
        · rw [hx1] at hy
          have ecs : pu_cset a w h nb nc x = pu_dug a := by unfold pu_cset; rw [if_neg hz, if_neg hy]
          have ea : (408 : Int32) + Int32.ofNat c = Int32.ofNat (408 + c) := pu_add 408 c
          rw [ea, pu_l444]
          refine pu_ck (pu_ok (by omega) (by omega)) ?_
          rw [pu_n (show 408 + c < 2147483648 by omega)]
          refine pu_if (fun hu => ?_) (fun hu => ?_)
          · rw [hL.1] at hu
            exact hg _ ⟨by rw [ecs]; exact decide_eq_false hu, hL, hS⟩
          · rw [hL.1] at hu
            exact hg2 _ ⟨by rw [ecs]; exact decide_eq_true (Classical.not_not.mp hu), hL, hS⟩
        · have hy := hx1.mp (Classical.not_not.mp hy)
          have ecs : pu_cset a w h nb nc x = pu_left a w h nb nc := by unfold pu_cset; rw [if_neg hz, if_pos hy]
          refine pu_bd (pu_rleft H hL hc1 hn) (fun r hr => ?_)
          obtain ⟨r1, r2, r3⟩ := hr
          refine pu_if (fun hu => ?_) (fun hu => ?_)
          · rw [r1, pu_b1_0] at hu
            exact hg _ ⟨by rw [ecs]; exact hu, r2, pu_RS_trans hS r3⟩
          · rw [r1, pu_b1_0] at hu
            exact hg2 _ ⟨by rw [ecs]; exact hbool _ hu, r2, pu_RS_trans hS r3⟩
      · have hz := hx0.mp (Classical.not_not.mp hz)
        have ecs : pu_cset a w h nb nc x = pu_cand a w h nb nc := by unfold pu_cset; rw [if_pos hz]
        refine pu_bd (pu_rcand H hL hc1 hn) (fun r hr => ?_)
        obtain ⟨r1, r2, r3⟩ := hr
        refine pu_if (fun hu => ?_) (fun hu => ?_)
        · rw [r1, pu_b1_0] at hu
          exact hg _ ⟨by rw [ecs]; exact hu, r2, pu_RS_trans hS r3⟩
        · rw [r1, pu_b1_0] at hu
          exact hg2 _ ⟨by rw [ecs]; exact hbool _ hu, r2, pu_RS_trans hS r3⟩
