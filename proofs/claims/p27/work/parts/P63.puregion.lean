/-! regions and candidates: the class -/
def pu_first (p : Nat → Bool) : Nat → Option Nat
  | 0 => none
  | n + 1 => match pu_first p n with | some q => some q | none => if p n then some n else none
theorem pu_first_S {p : Nat → Bool} {n : Nat} : pu_first p (n + 1) = (match pu_first p n with | some q => some q | none => if p n then some n else none) := rfl
theorem pu_first_go {p : Nat → Bool} {n : Nat} (h : pu_first p n = none) (hp : p n = false) : pu_first p (n + 1) = none := by
  rw [pu_first_S, h]
  show (if p n then some n else none) = none
  rw [hp]; rfl
theorem pu_first_at {p : Nat → Bool} {i n : Nat} (h : pu_first p i = none) (hp : p i = true) (hn : i < n) : pu_first p n = some i := by
  induction n with
  | zero => exact absurd hn (Nat.not_lt_zero _)
  | succ n ih =>
    rw [pu_first_S]
    by_cases e : i = n
    · subst e
      rw [h]
      show (if p i then some i else none) = _
      rw [hp]; rfl
    · rw [ih (by omega)]
theorem pu_first_isNone {p : Nat → Bool} {n : Nat} : (pu_first p (n + 1)).isNone = ((pu_first p n).isNone && !p n) := by
  rw [pu_first_S]
  cases h : pu_first p n with
  | some q => rfl
  | none =>
    show (if p n then some n else none : Option Nat).isNone = (true && !p n)
    cases p n <;> rfl
theorem pu_first_lt {p : Nat → Bool} {n q : Nat} (h : pu_first p n = some q) : q < n := by
  induction n with
  | zero => exact absurd h (by simp [pu_first])
  | succ n ih =>
    rw [pu_first_S] at h
    cases e : pu_first p n with
    | some z =>
      rw [e] at h
      have := ih (e.trans h)
      omega
    | none =>
      rw [e] at h
      by_cases hp : p n = true
      · have h : (if p n then some n else none) = some q := h
        rw [hp] at h
        have h : some n = some q := h
        cases h
        omega
      · have h : (if p n then some n else none) = some q := h
        rw [if_neg hp] at h
        exact absurd h (by simp)
noncomputable def pu_bad (a : Nat → Int32) (w h nb d q : Nat) : Bool := pu_B (a (pu_cl q) = 1 ∧ ¬ pu_Fw a w h nb q (pu_nl a q) d)
noncomputable def pu_cand (a : Nat → Int32) (w h nb nc d : Nat) : Bool := pu_land a d && (pu_first (pu_bad a w h nb d) nc).isNone
noncomputable def pu_left (a : Nat → Int32) (w h nb nc d : Nat) : Bool := pu_cand a w h nb nc d && !pu_dug a d
/-! sets in whole -/
theorem pu_keepOnly {σ : tw_Sg} {th r0 n : Nat} (hk : tw_kd th = 0) (hk0 : tw_kd r0 = 0) (hne : r0 + 1 ≠ th + 1) (hn : 30 < n) : pu_wp (tw_P_X0_keepOnly n th r0 σ) (fun σ' => (∀ s, s < 704 → pu_bt σ' (th + 1) s = (pu_bt σ (th + 1) s && pu_bt σ (r0 + 1) s)) ∧ pu_fr (fun k => k = th + 1) σ σ') := by
  unfold tw_P_X0_keepOnly
  rw [pu_l22 hk, pu_l22 hk0]
  refine pu_lt ?_
  refine pu_lp (J := fun s => ∃ i, i ≤ 22 ∧ s.1 = Int32.ofNat i ∧ (∀ j, j < i → s.2 (th + 1) j = σ (th + 1) j &&& σ (r0 + 1) j) ∧ (∀ j, i ≤ j → s.2 (th + 1) j = σ (th + 1) j) ∧ pu_fr (fun k => k = th + 1) σ s.2) (m := fun s => 22 - s.1.toNatClampNeg) ?_ n _ (by show 22 - _ < n; omega) ⟨0, by omega, rfl, fun j z => absurd z (Nat.not_lt_zero _), fun _ _ => rfl, pu_fr_refl⟩
  rintro k3 ⟨ii, σ1⟩ ⟨i, hi, e1, hA, hB, hF⟩ hk3
  dsimp only [] at e1 hA hB hF
  subst e1
  dsimp only []
  have hend : 22 ≤ i → pu_wp (some σ1) (fun σ' => (∀ s, s < 704 → pu_bt σ' (th + 1) s = (pu_bt σ (th + 1) s && pu_bt σ (r0 + 1) s)) ∧ pu_fr (fun k => k = th + 1) σ σ') := fun hi => pu_some ⟨fun s hs => by
    unfold pu_bt
    rw [hA (s / 32) (by omega)]
    show ((σ (th + 1) (s / 32)).toBitVec &&& (σ (r0 + 1) (s / 32)).toBitVec).getLsbD (s % 32) = _
    rw [BitVec.getLsbD_and], hF⟩
  refine pu_jn0 (pu_if (fun hc => ?_) (fun hc => pu_if (fun hc => ?_) (fun hc1 => ?_)))
  · exact hend ((pu_le (by omega) (by omega)).mp hc)
  · exact hend ((pu_le (by omega) (by omega)).mp hc)
  · have hc : i < 22 := by rw [pu_le (by omega) (by omega)] at hc; omega
    refine pu_ck (pu_ok (by omega) hc) (pu_ck (pu_ok (by omega) hc) (pu_ck (pu_ok (by omega) hc) (pu_lt (pu_lt ?_))))
    have em : Int32.ofNat i + (1 : Int32) = Int32.ofNat (i + 1) := pu_add i 1
    rw [pu_n (show i < 2147483648 by omega), em, hB i (Nat.le_refl _), hF (r0 + 1) hne]
    refine hk3 _ ⟨i + 1, by omega, rfl, fun j hj => ?_, fun j hj => ?_, pu_fr_trans hF (pu_fr_up rfl)⟩ ?_
    · show tw_up σ1 (th + 1) i _ (th + 1) j = _
      rw [tw_up_s]
      unfold upd
      by_cases e : j = i
      · subst e; rw [if_pos rfl]
      · rw [if_neg e]; exact hA j (by omega)
    · show tw_up σ1 (th + 1) i _ (th + 1) j = _
      rw [tw_up_s]
      unfold upd
      rw [if_neg (by omega)]
      exact hB j (by omega)
    · show 22 - (Int32.ofNat (i + 1)).toNatClampNeg < 22 - (Int32.ofNat i).toNatClampNeg
      rw [pu_n (by omega), pu_n (by omega)]
      omega
theorem pu_removeAll {σ : tw_Sg} {th r0 n : Nat} (hk : tw_kd th = 0) (hk0 : tw_kd r0 = 0) (hne : r0 + 1 ≠ th + 1) (hn : 30 < n) : pu_wp (tw_P_X0_removeAll n th r0 σ) (fun σ' => (∀ s, s < 704 → pu_bt σ' (th + 1) s = (pu_bt σ (th + 1) s && !pu_bt σ (r0 + 1) s)) ∧ pu_fr (fun k => k = th + 1) σ σ') := by
  unfold tw_P_X0_removeAll
  rw [pu_l22 hk, pu_l22 hk0]
  refine pu_lt ?_
  refine pu_lp (J := fun s => ∃ i, i ≤ 22 ∧ s.1 = Int32.ofNat i ∧ (∀ j, j < i → s.2 (th + 1) j = σ (th + 1) j &&& (σ (r0 + 1) j ^^^ (-1 : Int32))) ∧ (∀ j, i ≤ j → s.2 (th + 1) j = σ (th + 1) j) ∧ pu_fr (fun k => k = th + 1) σ s.2) (m := fun s => 22 - s.1.toNatClampNeg) ?_ n _ (by show 22 - _ < n; omega) ⟨0, by omega, rfl, fun j z => absurd z (Nat.not_lt_zero _), fun _ _ => rfl, pu_fr_refl⟩
  rintro k3 ⟨ii, σ1⟩ ⟨i, hi, e1, hA, hB, hF⟩ hk3
  dsimp only [] at e1 hA hB hF
  subst e1
  dsimp only []
  have hend : 22 ≤ i → pu_wp (some σ1) (fun σ' => (∀ s, s < 704 → pu_bt σ' (th + 1) s = (pu_bt σ (th + 1) s && !pu_bt σ (r0 + 1) s)) ∧ pu_fr (fun k => k = th + 1) σ σ') := fun hi => pu_some ⟨fun s hs => by
    unfold pu_bt
    rw [hA (s / 32) (by omega)]
    show ((σ (th + 1) (s / 32)).toBitVec &&& ((σ (r0 + 1) (s / 32)).toBitVec ^^^ BitVec.allOnes 32)).getLsbD (s % 32) = _
    rw [BitVec.getLsbD_and, BitVec.getLsbD_xor, BitVec.getLsbD_allOnes, decide_eq_true (show s % 32 < 32 from Nat.mod_lt _ (by decide)), Bool.xor_true], hF⟩
  refine pu_jn0 (pu_if (fun hc => ?_) (fun hc => pu_if (fun hc => ?_) (fun hc1 => ?_)))
  · exact hend ((pu_le (by omega) (by omega)).mp hc)
  · exact hend ((pu_le (by omega) (by omega)).mp hc)
  · have hc : i < 22 := by rw [pu_le (by omega) (by omega)] at hc; omega
    refine pu_ck (pu_ok (by omega) hc) (pu_ck (pu_ok (by omega) hc) (pu_ck (pu_ok (by omega) hc) (pu_lt (pu_lt ?_))))
    have em : Int32.ofNat i + (1 : Int32) = Int32.ofNat (i + 1) := pu_add i 1
    rw [pu_n (show i < 2147483648 by omega), em, hB i (Nat.le_refl _), hF (r0 + 1) hne]
    refine hk3 _ ⟨i + 1, by omega, rfl, fun j hj => ?_, fun j hj => ?_, pu_fr_trans hF (pu_fr_up rfl)⟩ ?_
    · show tw_up σ1 (th + 1) i _ (th + 1) j = _
      rw [tw_up_s]
      unfold upd
      by_cases e : j = i
      · subst e; rw [if_pos rfl]
      · rw [if_neg e]; exact hA j (by omega)
    · show tw_up σ1 (th + 1) i _ (th + 1) j = _
      rw [tw_up_s]
      unfold upd
      rw [if_neg (by omega)]
      exact hB j (by omega)
    · show 22 - (Int32.ofNat (i + 1)).toNatClampNeg < 22 - (Int32.ofNat i).toNatClampNeg
      rw [pu_n (by omega), pu_n (by omega)]
      omega
/-! clues of the class -/
theorem pu_isUsed {σ : tw_Sg} {a : Nat → Int32} {w h nb nc q : Nat} (hcc : pu_wfc a w h nc) (hCD : pu_CD (pu_bk σ 1) a w h nb nc) (hq : q < nc) : tw_P_X1_isUsed 14 (Int32.ofNat q) σ = some (if a (pu_cl q) = 1 then 1 else 0) := by
  obtain ⟨-, hnc, -⟩ := hcc
  have e : σ 16 q = a (pu_cl q) := (hCD.2.2.2.2.2 q hq).1
  unfold tw_P_X1_isUsed
  rw [pu_get (th := 14 + 1) (i := q) (N := 4) (by decide +kernel) (by decide) (by omega)]
  dsimp only [tw_bd, tw_jn]
  rw [show σ (14 + 1 + 1) q = a (pu_cl q) from e]
  by_cases h1 : a (pu_cl q) = 1
  · rw [if_neg (fun z => z h1), if_pos h1]; rfl
  · rw [if_pos h1, if_neg h1]; rfl
theorem pu_region {σ : tw_Sg} {a : Nat → Int32} {w h nb nc q : Nat} (hcc : pu_wfc a w h nc) (hCD : pu_CD (pu_bk σ 1) a w h nb nc) (hq : q < nc) : tw_P_X10_region (Int32.ofNat q) σ = some (40 + 2 * (9 * q + pu_nl a q)) ∧ tw_kd (40 + 2 * (9 * q + pu_nl a q)) = 0 := by
  obtain ⟨-, hnc, hcq⟩ := hcc
  obtain ⟨-, -, ⟨e1, e2⟩, -⟩ := hcq q hq
  have e : σ 22 q = a (pu_cl q + 2) := (hCD.2.2.2.2.2 q hq).2.2.1
  obtain ⟨l1, l2⟩ := pu_layer (σ := σ) (q := q) (l := pu_nl a q) (by omega) e2
  refine ⟨?_, l2⟩
  unfold tw_P_X10_region
  rw [pu_get (th := 21) (i := q) (N := 4) (by decide +kernel) (by decide) (by omega), show σ (21 + 1) q = a (pu_cl q + 2) from e, e1]
  exact l1
theorem pu_clueAgainst {σ : tw_Sg} {a : Nat → Int32} {w h nb nc d n : Nat} (hm : pu_wfm a w h) (hcc : pu_wfc a w h nc) (hCD : pu_CD (pu_bk σ 1) a w h nb nc) (hL : pu_lay σ a w h nb nc) (hd : d < w * h) (hn : 30 < n) : tw_P_X8_clueAgainst n (Int32.ofNat (pu_sp w d)) σ = some (match pu_first (pu_bad a w h nb d) nc with | some q => Int32.ofNat (q + 1) | none => 0) := by
  have hsp := pu_sp_rng hm.2.2.2.1 hm.2.2.2.2.2 hd
  obtain ⟨e3, hnc, hcq⟩ := id hcc
  have e14 : σ 14 0 = Int32.ofNat nc := hCD.1.2.2.2.2.2.1.trans e3
  have key : pu_wp (tw_P_X8_clueAgainst n (Int32.ofNat (pu_sp w d)) σ) (fun v => v = (match pu_first (pu_bad a w h nb d) nc with | some q => Int32.ofNat (q + 1) | none => 0)) := by
    unfold tw_P_X8_clueAgainst
    refine pu_lt ?_
    refine pu_lp (J := fun s => ∃ q, q ≤ nc ∧ s = Int32.ofNat q ∧ pu_first (pu_bad a w h nb d) q = none) (m := fun s => 10 - s.toNatClampNeg) ?_ n _ (by omega) ⟨0, by omega, rfl, rfl⟩
    rintro k3 qq ⟨q, hq, e1, hN⟩ hk3
    subst e1
    refine pu_if (fun hc => ?_) (fun hc => ?_)
    · rw [e14] at hc
      have hc := (pu_le (by omega) (by omega)).mp hc
      have : q = nc := by omega
      subst this
      refine pu_some ?_
      rw [hN]
    · rw [e14] at hc
      have hc : q < nc := by rw [pu_le (by omega) (by omega)] at hc; omega
      obtain ⟨r1, r2⟩ := pu_region (σ := σ) hcc hCD hc
      refine pu_bde (pu_isUsed hcc hCD hc) ?_
      have em : Int32.ofNat q + (1 : Int32) = Int32.ofNat (q + 1) := pu_add q 1
      have hnx : pu_bad a w h nb d q = false → pu_wp (k3 (Int32.ofNat q + (1 : Int32))) (fun v => v = (match pu_first (pu_bad a w h nb d) nc with | some q => Int32.ofNat (q + 1) | none => 0)) := fun hb => by
        rw [em]
        refine hk3 _ ⟨q + 1, by omega, rfl, pu_first_go hN hb⟩ ?_
        rw [pu_n (by omega), pu_n (by omega)]
        omega
      refine pu_jn0 (pu_if (fun hu => ?_) (fun hu => ?_))
      · have hu : ¬ a (pu_cl q) = 1 := fun z => by rw [if_pos z] at hu; exact absurd hu (by decide)
        exact pu_lt (hnx (pu_B_f (fun z => hu z.1)))
      · have hu : a (pu_cl q) = 1 := Classical.byContradiction fun z => hu (by rw [if_neg z])
        refine pu_bde r1 (pu_ck (by rw [r2]; rfl) ?_)
        refine pu_bde (pu_has r2 (by omega)) ?_
        have hbt := (hL q hc (pu_nl a q) (Nat.le_refl _)).1 d hd
        have hbt : pu_bt σ (40 + 2 * (9 * q + pu_nl a q) + 1) (pu_sp w d) = pu_B (pu_Fw a w h nb q (pu_nl a q) d) := by
          rw [show 40 + 2 * (9 * q + pu_nl a q) + 1 = pu_La q (pu_nl a q) from by unfold pu_La; omega]; exact hbt
        rw [hbt]
        refine pu_if (fun hz => ?_) (fun hz => ?_)
        · have hz : pu_Fw a w h nb q (pu_nl a q) d := Classical.byContradiction fun y => hz (by rw [pu_B_f y]; rfl)
          exact pu_lt (hnx (pu_B_f (fun z => z.2 hz)))
        · have hz : ¬ pu_Fw a w h nb q (pu_nl a q) d := fun y => hz (by rw [pu_B_t y]; decide)
          refine pu_some ?_
          rw [em, pu_first_at hN (pu_B_t ⟨hu, hz⟩) hc]
  obtain ⟨r, h1, h2⟩ := key
  rw [h1, h2]
theorem pu_kd140 : tw_kd 140 = 0 := by decide +kernel
theorem pu_kd2 : tw_kd 2 = 0 := by decide +kernel
theorem pu_kd4 : tw_kd 4 = 0 := by decide +kernel
theorem pu_bt_cpA {σ : tw_Sg} {A R s : Nat} (hl : tw_ln A = 22) (hs : s < 704) : pu_bt (pu_cpA σ A R) A s = pu_bt σ R s := by
  unfold pu_bt
  rw [pu_cpA_s (by omega)]
/-- the set in A, cut down by a set in B -/
theorem pu_set_map {σ σ' : tw_Sg} {A w m : Nat} {p q : Nat → Bool} (hm : ∀ c, c < m → pu_sp w c < 704) (h : pu_set σ A w m p) (e : ∀ s, s < 704 → pu_bt σ A s = false → pu_bt σ' A s = false) (e2 : ∀ c, c < m → pu_bt σ' A (pu_sp w c) = q c) : pu_set σ' A w m q := ⟨e2, fun s hs hn => e s hs (h.2 s hs hn)⟩
theorem pu_candidates {σ : tw_Sg} {a : Nat → Int32} {w h nb nc n : Nat} (hm : pu_wfm a w h) (W : nb ≤ 8) (hcc : pu_wfc a w h nc) (hCD : pu_CD (pu_bk σ 1) a w h nb nc) (hL : pu_lay σ a w h nb nc) (hn : 30 < n) : pu_wp (tw_P_X8_candidates n σ) (fun r => r.1 = 140 ∧ pu_set r.2 141 w (w * h) (pu_cand a w h nb nc) ∧ pu_fr (fun k => k = 141) σ r.2) := by
  have hsp : ∀ c, c < w * h → pu_sp w c < 704 := fun c q => by have := pu_sp_rng hm.2.2.2.1 hm.2.2.2.2.2 q; omega
  obtain ⟨e3, hnc, hcq⟩ := id hcc
  have e14 : σ 14 0 = Int32.ofNat nc := hCD.1.2.2.2.2.2.1.trans e3
  have hland : pu_set σ 3 w (w * h) (pu_land a) := hCD.2.1
  unfold tw_P_X8_candidates
  refine pu_bde (pu_ccopy pu_kd140 pu_kd2) (pu_lt ?_)
  refine pu_lp (J := fun s => ∃ q, q ≤ nc ∧ s.1 = Int32.ofNat q ∧ pu_set s.2 141 w (w * h) (fun d => pu_land a d && (pu_first (pu_bad a w h nb d) q).isNone) ∧ pu_fr (fun k => k = 141) σ s.2) (m := fun s => 10 - s.1.toNatClampNeg) ?_ n _ (by show 10 - _ < n; omega) ⟨0, by omega, rfl, ?_, fun k hk => pu_cpA_n hk⟩
  rotate_left
  · refine ⟨fun c hc => ?_, fun s hs hx => ?_⟩
    · show pu_bt (pu_cpA σ 141 3) 141 (pu_sp w c) = (pu_land a c && true)
      rw [pu_bt_cpA (pu_l22 pu_kd140) (hsp c hc), hland.1 c hc, Bool.and_true]
    · show pu_bt (pu_cpA σ 141 3) 141 s = false
      rw [pu_bt_cpA (pu_l22 pu_kd140) hs]
      exact hland.2 s hs hx
  rintro k4 ⟨qq, σ1⟩ ⟨q, hq, e1, hS, hF⟩ hk4
  dsimp only [] at e1 hS hF
  subst e1
  dsimp only []
  refine pu_if (fun hc => ?_) (fun hc => ?_)
  · rw [hF 14 (by decide), e14] at hc
    have hc := (pu_le (by omega) (by omega)).mp hc
    have : q = nc := by omega
    subst this
    exact pu_some (r := (140, σ1)) ⟨rfl, hS, hF⟩
  · rw [hF 14 (by decide), e14] at hc
    have hc : q < nc := by rw [pu_le (by omega) (by omega)] at hc; omega
    have hCD1 : pu_CD (pu_bk σ1 1) a w h nb nc := pu_CD_fr hm W hcc hCD (fun k hk => hF k (by omega))
    have hLq : ∀ l, l ≤ pu_nl a q → pu_set σ1 (pu_La q l) w (w * h) (fun d => pu_B (pu_Fw a w h nb q l d)) := fun l hl => pu_set_cong (hL q hc l hl) (hF _ (by
      have := (hcq q hc).2.2.1.2
      have : pu_nl a q < 9 := this
      unfold pu_La; omega))
    obtain ⟨r1, r2⟩ := pu_region (σ := σ1) hcc hCD1 hc
    refine pu_bde (pu_isUsed hcc hCD1 hc) ?_
    have em : Int32.ofNat q + (1 : Int32) = Int32.ofNat (q + 1) := pu_add q 1
    refine pu_jn (R := fun s => pu_set s 141 w (w * h) (fun d => pu_land a d && (pu_first (pu_bad a w h nb d) (q + 1)).isNone) ∧ pu_fr (fun k => k = 141) σ s) (fun s hs => ?_) (fun f hf => ?_)
    · refine pu_lt ?_
      rw [em]
      refine hk4 _ ⟨q + 1, by omega, rfl, hs.1, hs.2⟩ ?_
      show 10 - (Int32.ofNat (q + 1)).toNatClampNeg < 10 - (Int32.ofNat q).toNatClampNeg
      rw [pu_n (by omega), pu_n (by omega)]
      omega
    · refine pu_if (fun hu => ?_) (fun hu => ?_)
      · have hu : ¬ a (pu_cl q) = 1 := fun z => by rw [if_pos z] at hu; exact absurd hu (by decide)
        refine hf _ ⟨pu_set_ext hS (fun d _ => ?_), hF⟩
        rw [pu_first_isNone, show pu_bad a w h nb d q = false from pu_B_f (fun z => hu z.1), Bool.not_false, Bool.and_true]
      · have hu : a (pu_cl q) = 1 := Classical.byContradiction fun z => hu (by rw [if_neg z])
        refine pu_bde r1 (pu_ck (by rw [r2]; rfl) ?_)
        refine pu_bd (pu_keepOnly pu_kd140 r2 (by have := (hcq q hc).2.2.1.2; have : pu_nl a q < 9 := this; omega) hn) (fun σ2 h2 => ?_)
        obtain ⟨y1, y2⟩ := h2
        refine hf _ ⟨pu_set_map hsp hS (fun s hs hz => by rw [y1 s hs, hz]; rfl) (fun c hc2 => ?_), pu_fr_trans hF y2⟩
        have hR : pu_bt σ1 (40 + 2 * (9 * q + pu_nl a q) + 1) (pu_sp w c) = pu_B (pu_Fw a w h nb q (pu_nl a q) c) := by
          rw [show 40 + 2 * (9 * q + pu_nl a q) + 1 = pu_La q (pu_nl a q) from by unfold pu_La; omega]
          exact (hLq _ (Nat.le_refl _)).1 c hc2
        rw [y1 _ (hsp c hc2), hS.1 c hc2, hR, pu_first_isNone, Bool.and_assoc]
        congr 2
        by_cases z : pu_Fw a w h nb q (pu_nl a q) c
        · rw [pu_B_t z, show pu_bad a w h nb c q = false from pu_B_f (fun y => y.2 z)]; rfl
        · rw [pu_B_f z, show pu_bad a w h nb c q = true from pu_B_t ⟨hu, z⟩]; rfl
theorem pu_cleft {σ : tw_Sg} {a : Nat → Int32} {w h nb nc n : Nat} (hm : pu_wfm a w h) (W : nb ≤ 8) (hcc : pu_wfc a w h nc) (hCD : pu_CD (pu_bk σ 1) a w h nb nc) (hL : pu_lay σ a w h nb nc) (hn : 30 < n) : pu_wp (tw_P_X8_left n σ) (fun r => r.1 = 140 ∧ pu_set r.2 141 w (w * h) (pu_left a w h nb nc) ∧ pu_fr (fun k => k = 141) σ r.2) := by
  have hsp : ∀ c, c < w * h → pu_sp w c < 704 := fun c q => by have := pu_sp_rng hm.2.2.2.1 hm.2.2.2.2.2 q; omega
  have hdug : pu_set σ 5 w (w * h) (pu_dug a) := hCD.2.2.1
  unfold tw_P_X8_left
  refine pu_bd (pu_candidates hm W hcc hCD hL hn) (fun r1 h1 => ?_)
  obtain ⟨e1, hS, hF⟩ := h1
  refine pu_ck (by rw [e1]; rfl) ?_
  refine pu_bd (pu_removeAll pu_kd140 pu_kd4 (by decide) hn) (fun σ2 h2 => ?_)
  obtain ⟨y1, y2⟩ := h2
  refine pu_some (r := (140, σ2)) ⟨rfl, pu_set_map hsp hS (fun s hs hz => by show pu_bt σ2 (140 + 1) s = false; rw [y1 s hs, show pu_bt r1.2 (140 + 1) s = false from hz]; rfl) (fun c hc => ?_), pu_fr_trans hF y2⟩
  show pu_bt σ2 (140 + 1) (pu_sp w c) = _
  rw [y1 _ (hsp c hc), show pu_bt r1.2 (140 + 1) (pu_sp w c) = _ from hS.1 c hc, pu_bt_cong (hF (4 + 1) (by decide)), show pu_bt σ (4 + 1) (pu_sp w c) = _ from hdug.1 c hc]
  rfl
