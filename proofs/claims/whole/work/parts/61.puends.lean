/-! the reference's ends of a leg: (cell, paces) by ascending paces; of legs that don't go, the first alone -/
def pu_el (a : Nat → Int32) (w h nb q l c : Nat) : Nat → List (Nat × Nat)
  | 0 => []
  | i + 1 => match pu_pt a w h nb (pu_bear a q l) c i with
    | some d => if pu_ce a w h nb q l d i = true ∧ i ≤ pu_most a q l ∧ (pu_kind a q l = 0 ∨ pu_el a w h nb q l c i = []) then pu_el a w h nb q l c i ++ [(d, i)] else pu_el a w h nb q l c i
    | none => pu_el a w h nb q l c i
theorem pu_el_S {a : Nat → Int32} {w h nb q l c i : Nat} : pu_el a w h nb q l c (i + 1) = match pu_pt a w h nb (pu_bear a q l) c i with
    | some d => if pu_ce a w h nb q l d i = true ∧ i ≤ pu_most a q l ∧ (pu_kind a q l = 0 ∨ pu_el a w h nb q l c i = []) then pu_el a w h nb q l c i ++ [(d, i)] else pu_el a w h nb q l c i
    | none => pu_el a w h nb q l c i := rfl
theorem pu_el_len {a : Nat → Int32} {w h nb q l c : Nat} : ∀ i, (pu_el a w h nb q l c i).length ≤ i
  | 0 => Nat.le_refl _
  | i + 1 => by
    have ih := pu_el_len (a := a) (w := w) (h := h) (nb := nb) (q := q) (l := l) (c := c) i
    show (match pu_pt a w h nb (pu_bear a q l) c i with | some d => _ | none => _ : List (Nat × Nat)).length ≤ i + 1
    split
    · split
      · rw [List.length_append]; show _ + 1 ≤ _; omega
      · omega
    · omega
theorem pu_el_mem {a : Nat → Int32} {w h nb q l c : Nat} : ∀ i x, x ∈ pu_el a w h nb q l c i → x.2 < i ∧ x.2 ≤ pu_most a q l ∧ pu_pt a w h nb (pu_bear a q l) c x.2 = some x.1 ∧ pu_ce a w h nb q l x.1 x.2 = true
  | 0, x, hx => by cases hx
  | i + 1, x, hx => by
    have ih := pu_el_mem (a := a) (w := w) (h := h) (nb := nb) (q := q) (l := l) (c := c) i x
    have hx : x ∈ (match pu_pt a w h nb (pu_bear a q l) c i with | some d => if pu_ce a w h nb q l d i = true ∧ i ≤ pu_most a q l ∧ (pu_kind a q l = 0 ∨ pu_el a w h nb q l c i = []) then pu_el a w h nb q l c i ++ [(d, i)] else pu_el a w h nb q l c i | none => pu_el a w h nb q l c i) := hx
    split at hx
    · rename_i d hd
      split at hx
      · rename_i hc
        rcases List.mem_append.mp hx with z | z
        · obtain ⟨z1, z2⟩ := ih z; exact ⟨by omega, z2⟩
        · rw [List.mem_singleton.mp z]
          exact ⟨Nat.lt_succ_self _, hc.2.1, hd, hc.1⟩
      · obtain ⟨z1, z2⟩ := ih hx; exact ⟨by omega, z2⟩
    · obtain ⟨z1, z2⟩ := ih hx; exact ⟨by omega, z2⟩
/-- the ends themselves -/
def pu_L (a : Nat → Int32) (w h nb q l c : Nat) : List (Nat × Nat) := pu_el a w h nb q l c (pu_most a q l + 1)
theorem pu_el_grow {a : Nat → Int32} {w h nb q l c i : Nat} : ∀ k, ∀ x, x ∈ pu_el a w h nb q l c i → x ∈ pu_el a w h nb q l c (i + k)
  | 0, _, hx => hx
  | k + 1, x, hx => by
    have ih := pu_el_grow k x hx
    show x ∈ (match pu_pt a w h nb (pu_bear a q l) c (i + k) with | some d => _ | none => _ : List (Nat × Nat))
    split
    · split
      · exact List.mem_append.mpr (Or.inl ih)
      · exact ih
    · exact ih
/-- every end of the leg is in the list, or a first one of the same cell is -/
theorem pu_el_all {a : Nat → Int32} {w h nb q l c i d : Nat} (hi : i ≤ pu_most a q l) (hp : pu_pt a w h nb (pu_bear a q l) c i = some d) (hc : pu_ce a w h nb q l d i = true) : ∃ j, j ≤ i ∧ (d, j) ∈ pu_el a w h nb q l c (i + 1) := by
  by_cases hk : pu_kind a q l = 0 ∨ pu_el a w h nb q l c i = []
  · refine ⟨i, Nat.le_refl _, ?_⟩
    show (d, i) ∈ (match pu_pt a w h nb (pu_bear a q l) c i with | some d => _ | none => _ : List (Nat × Nat))
    rw [hp]
    show (d, i) ∈ (if _ then _ else _ : List (Nat × Nat))
    rw [if_pos ⟨hc, hi, hk⟩]
    exact List.mem_append.mpr (Or.inr (List.mem_singleton.mpr rfl))
  · have hk0 : pu_kind a q l ≠ 0 := fun e => hk (Or.inl e)
    have hne : pu_el a w h nb q l c i ≠ [] := fun e => hk (Or.inr e)
    obtain ⟨x, hx⟩ := List.exists_mem_of_ne_nil _ hne
    obtain ⟨y1, y2, y3, y4⟩ := pu_el_mem i x hx
    have hxd : x.1 = d := by
      unfold pu_ce at hc y4
      rw [if_neg hk0] at hc y4
      by_cases hk1 : pu_kind a q l = 1
      · rw [if_pos hk1] at hc y4
        have e1 := of_decide_eq_true hc
        have e2 := of_decide_eq_true y4
        rw [e1] at e2
        exact (Option.some.inj e2).symm
      · rw [if_neg hk1] at hc y4
        exfalso
        have hn : pu_pt a w h nb (pu_bear a q l) c (x.2 + 1) = none := by
          show (match pu_pt a w h nb (pu_bear a q l) c x.2 with | some d => pu_step a w h nb d (pu_bear a q l) | none => none) = none
          rw [y3]
          exact Option.isNone_iff_eq_none.mp y4
        have := pu_pt_none hn (i - (x.2 + 1))
        rw [show x.2 + 1 + (i - (x.2 + 1)) = i from by omega, hp] at this
        cases this
    refine ⟨x.2, by omega, ?_⟩
    have := pu_el_grow 1 x hx
    rw [← hxd]
    exact this
theorem pu_L_E {a : Nat → Int32} {w h nb q l c d : Nat} : (∃ j, (d, j) ∈ pu_L a w h nb q l c) ↔ pu_E a w h nb q l c d := by
  constructor
  · rintro ⟨j, hj⟩
    obtain ⟨-, y2, y3, y4⟩ := pu_el_mem _ _ hj
    exact ⟨j, y2, y3, y4⟩
  · rintro ⟨i, h1, h2, h3⟩
    obtain ⟨j, -, hj⟩ := pu_el_all h1 h2 h3
    refine ⟨j, ?_⟩
    have := pu_el_grow (pu_most a q l - i) _ hj
    rw [show i + 1 + (pu_most a q l - i) = pu_most a q l + 1 from by omega] at this
    exact this
theorem pu_clueAt {σ : tw_Sg} {q : Nat} : tw_P_X12_clueAt (Int32.ofNat q) σ = some (Int32.ofNat (pu_cl q)) := by
  show some (Int32.ofNat 856 + Int32.ofNat 43 * Int32.ofNat q) = _
  rw [pu_mul, pu_add]
  rfl
theorem pu_legAt {σ : tw_Sg} {q l : Nat} : tw_P_X12_legAt (Int32.ofNat q) (Int32.ofNat l) σ = some (Int32.ofNat (pu_lg q l)) := by
  unfold tw_P_X12_legAt
  rw [pu_clueAt]
  show some ((Int32.ofNat (pu_cl q) + Int32.ofNat 11) + Int32.ofNat 4 * Int32.ofNat l) = _
  rw [pu_mul, pu_add, pu_add]
  rfl
def pu_F9 (k : Nat) : Prop := k = 455 ∨ k = 456
def pu_hasL (σ : tw_Sg) (L : List (Nat × Nat)) : Prop := ∀ j x, L[j]? = some x → σ 455 j = Int32.ofNat x.1 ∧ σ 456 j = Int32.ofNat x.2
theorem pu_eR_m1 {o : Option Nat} {m : Nat} (hm : m ≤ 400) (ho : ∀ d, o = some d → d < m) : pu_eR o = (-1 : Int32) ↔ o = none := by
  cases o with
  | none => exact ⟨fun _ => rfl, fun _ => rfl⟩
  | some d =>
    have := ho d rfl
    constructor
    · intro e; exact absurd e (pu_nm1 (by omega))
    · intro e; cases e
theorem pu_lg_lt {q l : Nat} (hq : q < 4) (hl : l < 8) : pu_lg q l + 3 < 1028 := by unfold pu_lg; omega
theorem pu_layEnds {σ : tw_Sg} {w h nb nc q l c n : Nat} (hm : pu_wfm (σ 444) w h) (hb : pu_wfb (σ 444) w h nb) (hcc : pu_wfc (σ 444) w h nc) (hq : q < nc) (hl : l < pu_nl (σ 444) q) (hc : c < w * h) (hn : 500 < n) :
    pu_wp (tw_P_X12_layEnds n (Int32.ofNat (pu_lg q l)) (Int32.ofNat c) σ) (fun r => r.1 = Int32.ofNat (pu_L (σ 444) w h nb q l c).length ∧ pu_hasL r.2 (pu_L (σ 444) w h nb q l c) ∧ pu_fr pu_F9 σ r.2) := by
  have hle := pu_wfm_le hm
  have hw := hm.2.2.2.1
  have hh := hm.2.2.2.2.2
  obtain ⟨-, hnc, hcq⟩ := id hcc
  obtain ⟨-, -, ⟨-, hnl⟩, -, hlq⟩ := hcq q hq
  have hnl : pu_nl (σ 444) q < 9 := hnl
  have hwl := hlq l hl
  obtain ⟨f1, f2⟩ := pu_few_lt hwl
  obtain ⟨⟨k1, k2⟩, ⟨b1, b2⟩, hk0, hk1⟩ := id hwl
  have k1 : σ 444 (pu_lg q l) = Int32.ofNat (pu_kind (σ 444) q l) := k1
  have k2 : pu_kind (σ 444) q l < 3 := k2
  have b1 : σ 444 (pu_lg q l + 3) = Int32.ofNat (pu_bear (σ 444) q l) := b1
  have b2 : pu_bear (σ 444) q l < 8 := b2
  have hlg := pu_lg_lt (q := q) (l := l) (by omega) (by omega)
  have a0 : Int32.ofNat (pu_lg q l) + (0 : Int32) = Int32.ofNat (pu_lg q l) := pu_add _ 0
  have a1 : Int32.ofNat (pu_lg q l) + (1 : Int32) = Int32.ofNat (pu_lg q l + 1) := pu_add _ 1
  have a2 : Int32.ofNat (pu_lg q l) + (2 : Int32) = Int32.ofNat (pu_lg q l + 2) := pu_add _ 2
  have a3 : Int32.ofNat (pu_lg q l) + (3 : Int32) = Int32.ofNat (pu_lg q l + 3) := pu_add _ 3
  unfold tw_P_X12_layEnds
  rw [pu_l444, a0, a1, a2, a3, pu_n (show pu_lg q l < 2147483648 by omega), pu_n (show pu_lg q l + 1 < 2147483648 by omega), pu_n (show pu_lg q l + 2 < 2147483648 by omega), pu_n (show pu_lg q l + 3 < 2147483648 by omega), show tw_ln 455 = 36 from by decide +kernel, show tw_ln 456 = 36 from by decide +kernel]
  refine pu_ck (pu_ok (by omega) (by omega)) (pu_lt ?_)
  rw [k1]
  have kz : Int32.ofNat (pu_kind (σ 444) q l) = 0 ↔ pu_kind (σ 444) q l = 0 := pu_eq (b := 0) (by omega) (by decide)
  have ko : Int32.ofNat (pu_kind (σ 444) q l) = 1 ↔ pu_kind (σ 444) q l = 1 := pu_eq (b := 1) (by omega) (by decide)
  -- most: 60 for legs that don't go
  refine pu_jn (R := fun v => ∃ M, M ≤ 60 ∧ v = Int32.ofNat M ∧ pu_most (σ 444) q l ≤ M ∧ (pu_kind (σ 444) q l ≠ 2 → pu_most (σ 444) q l = M) ∧ (pu_kind (σ 444) q l = 2 → M = 60)) (fun v hv => ?_) (fun f hf => ?_)
  rotate_left
  · refine pu_if (fun hc1 => ?_) (fun hc1 => ?_)
    · have hc1 : pu_kind (σ 444) q l ≠ 0 := fun e => hc1 (kz.mpr e)
      refine hf _ ⟨60, by omega, rfl, by omega, fun h2 => ?_, fun _ => rfl⟩
      unfold pu_most
      rw [if_neg hc1, if_pos (by omega)]
    · have hc1 : pu_kind (σ 444) q l = 0 := kz.mp (Classical.not_not.mp hc1)
      obtain ⟨⟨m1, m2⟩, ⟨m3, m4⟩⟩ := hk0 hc1
      have m1 : σ 444 (pu_lg q l + 1) = Int32.ofNat (pu_many (σ 444) q l) := m1
      have m3 : σ 444 (pu_lg q l + 2) = Int32.ofNat (pu_give (σ 444) q l) := m3
      have em : pu_most (σ 444) q l = pu_many (σ 444) q l + pu_give (σ 444) q l := by unfold pu_most; rw [if_pos hc1]
      refine pu_ck (pu_ok (by omega) (by omega)) (pu_ck (pu_ok (by omega) (by omega)) ?_)
      rw [m1, m3, pu_add]
      exact hf _ ⟨_, by omega, rfl, by omega, fun _ => em, fun e => by omega⟩
  obtain ⟨M, hM, rfl, hM1, hM2, hM3⟩ := hv
  refine pu_lt ?_
  refine pu_jn (R := fun v => pu_kind (σ 444) q l = 0 → ∀ i, i < 1000 → (Int32.ofNat i < v ↔ ¬ pu_few (σ 444) q l ≤ i)) (fun least hleast => ?_) (fun f hf => ?_)
  rotate_left
  · refine pu_if (fun hc1 => ?_) (fun hc1 => ?_)
    · have hc1 : pu_kind (σ 444) q l ≠ 0 := fun e => hc1 (kz.mpr e)
      exact hf _ (fun e => absurd e hc1)
    · have hc1 : pu_kind (σ 444) q l = 0 := kz.mp (Classical.not_not.mp hc1)
      obtain ⟨⟨m1, m2⟩, ⟨m3, m4⟩⟩ := hk0 hc1
      have m1 : σ 444 (pu_lg q l + 1) = Int32.ofNat (pu_many (σ 444) q l) := m1
      have m2 : pu_many (σ 444) q l < 31 := m2
      have m3 : σ 444 (pu_lg q l + 2) = Int32.ofNat (pu_give (σ 444) q l) := m3
      have m4 : pu_give (σ 444) q l < 6 := m4
      refine pu_ck (pu_ok (by omega) (by omega)) (pu_ck (pu_ok (by omega) (by omega)) ?_)
      rw [m1, m3]
      refine hf _ (fun _ i hi => ?_)
      have ef : pu_few (σ 444) q l = pu_many (σ 444) q l - pu_give (σ 444) q l := by unfold pu_few; rw [if_pos hc1]
      have es : Int32.ofNat (pu_many (σ 444) q l) - Int32.ofNat (pu_give (σ 444) q l) = Int32.ofInt ((pu_many (σ 444) q l : Int) - (pu_give (σ 444) q l : Int)) := by
        rw [Int32.ofInt_sub, Int32.ofInt_eq_ofNat, Int32.ofInt_eq_ofNat]
      rw [es, Int32.lt_iff_toInt_lt, pu_toInt (by omega), pu_int (by omega) (by omega), ef]
      omega
  refine pu_lt (pu_lt (pu_lt (pu_lt ?_)))
  refine pu_lp (J := fun s => ∃ i, i ≤ M + 1 ∧ s.2.2.1 = Int32.ofNat i ∧ s.2.1 = pu_eR (pu_pt (σ 444) w h nb (pu_bear (σ 444) q l) c i) ∧ s.1 = Int32.ofNat (pu_el (σ 444) w h nb q l c i).length ∧ pu_hasL s.2.2.2 (pu_el (σ 444) w h nb q l c i) ∧ (pu_kind (σ 444) q l = 0 ∨ pu_el (σ 444) w h nb q l c i = []) ∧ pu_fr pu_F9 σ s.2.2.2) (m := fun s => 100 - s.2.2.1.toNatClampNeg) ?_ n _ (by show 100 - _ < n; omega) ⟨0, by omega, rfl, rfl, rfl, fun j x hx => by simp [pu_el] at hx, Or.inr rfl, pu_fr_refl⟩
  rintro k ⟨len, at1, ii, σ1⟩ ⟨i, hi, e1, e2, e3, hL, hK, hF⟩ hkk
  dsimp only [] at e1 e2 e3 hL hF
  subst e1; subst e2; subst e3
  dsimp only [tw_jn]
  have hptl := fun d => pu_pt_lt (nb := nb) (b := pu_bear (σ 444) q l) hm hc i d
  have hlen := pu_el_len (a := σ 444) (w := w) (h := h) (nb := nb) (q := q) (l := l) (c := c) i
  -- at an end of the loop the list is whole
  have hdone : (∀ j, i ≤ j → j ≤ pu_most (σ 444) q l → pu_pt (σ 444) w h nb (pu_bear (σ 444) q l) c j = none) → pu_wp (some (Int32.ofNat (pu_el (σ 444) w h nb q l c i).length, σ1)) (fun r => r.1 = Int32.ofNat (pu_L (σ 444) w h nb q l c).length ∧ pu_hasL r.2 (pu_L (σ 444) w h nb q l c) ∧ pu_fr pu_F9 σ r.2) := by
    intro hnone
    have hkeep : ∀ j, i ≤ j → pu_el (σ 444) w h nb q l c j = pu_el (σ 444) w h nb q l c i := by
      intro j hj
      induction j with
      | zero => have : i = 0 := by omega
                rw [this]
      | succ j ih =>
        by_cases e : i = j + 1
        · rw [e]
        · rw [← ih (by omega)]
          show (match pu_pt (σ 444) w h nb (pu_bear (σ 444) q l) c j with | some d => _ | none => _ : List (Nat × Nat)) = _
          split
          · rename_i d hd
            rw [if_neg]
            rintro ⟨z1, z2, z3⟩
            rw [hnone j (by omega) z2] at hd
            cases hd
          · rfl
    have e : pu_L (σ 444) w h nb q l c = pu_el (σ 444) w h nb q l c i := by
      unfold pu_L
      rcases Nat.lt_or_ge (pu_most (σ 444) q l + 1) i with z | z
      · -- only a leg to the end: its most is one less
        have hk2 : pu_kind (σ 444) q l = 2 := by
          by_cases y : pu_kind (σ 444) q l = 2
          · exact y
          · have := hM2 y; omega
        have hm59 : pu_most (σ 444) q l = 59 := by unfold pu_most; rw [if_neg (by omega), if_neg (by omega)]
        have hi61 : i = 61 := by omega
        subst hi61
        rw [hm59]
        show pu_el (σ 444) w h nb q l c 60 = pu_el (σ 444) w h nb q l c 61
        symm
        show (match pu_pt (σ 444) w h nb (pu_bear (σ 444) q l) c 60 with | some d => _ | none => _ : List (Nat × Nat)) = _
        split
        · rw [if_neg]
          rintro ⟨z1, z2, z3⟩
          have z2 : 60 ≤ pu_most (σ 444) q l := z2
          omega
        · rfl
      · exact hkeep _ z
    rw [e]
    exact pu_some ⟨rfl, hL, hF⟩
  refine pu_if (fun hc1 => ?_) (fun hc1 => ?_)
  · have hc1 := (pu_ltn (by omega) (by omega)).mp hc1
    exact hdone (fun j j1 j2 => by omega)
  · have hc1 : i ≤ M := by rw [pu_ltn (by omega) (by omega)] at hc1; omega
    refine pu_if (fun hz => ?_) (fun hz => ?_)
    · have hz := (pu_eR_m1 hle hptl).mp hz
      refine hdone (fun j j1 j2 => ?_)
      have := pu_pt_none hz (j - i)
      rwa [show i + (j - i) = j from by omega] at this
    · cases hpt : pu_pt (σ 444) w h nb (pu_bear (σ 444) q l) c i with
      | none => rw [hpt] at hz; exact absurd rfl hz
      | some d =>
        have hd := hptl d hpt
        rw [show pu_eR (some d) = Int32.ofNat d from rfl]
        have e4 : σ1 444 = σ 444 := hF 444 (by unfold pu_F9; decide)
        refine pu_ck (pu_ok (by omega) (by omega)) ?_
        have e5 : σ1 444 (pu_lg q l + 3) = Int32.ofNat (pu_bear (σ 444) q l) := by rw [e4]; exact b1
        rw [e5]
        refine pu_bde (pu_rstep (σ := σ1) (w := w) (h := h) (nb := nb) (by rw [e4]; exact hm) (by rw [e4]; exact hb) hd b2 (by omega)) ?_
        have e6 : pu_eR (pu_step (σ1 444) w h nb d (pu_bear (σ 444) q l)) = pu_eR (pu_step (σ 444) w h nb d (pu_bear (σ 444) q l)) := by rw [e4]
        rw [e6]
        refine pu_lt ?_
        have hptS : pu_pt (σ 444) w h nb (pu_bear (σ 444) q l) c (i + 1) = pu_step (σ 444) w h nb d (pu_bear (σ 444) q l) := by
          show (match pu_pt (σ 444) w h nb (pu_bear (σ 444) q l) c i with | some d => pu_step (σ 444) w h nb d (pu_bear (σ 444) q l) | none => none) = _
          rw [hpt]
        have helS : pu_el (σ 444) w h nb q l c (i + 1) = if pu_ce (σ 444) w h nb q l d i = true ∧ i ≤ pu_most (σ 444) q l ∧ (pu_kind (σ 444) q l = 0 ∨ pu_el (σ 444) w h nb q l c i = []) then pu_el (σ 444) w h nb q l c i ++ [(d, i)] else pu_el (σ 444) w h nb q l c i := by
          show (match pu_pt (σ 444) w h nb (pu_bear (σ 444) q l) c i with | some d => _ | none => _ : List (Nat × Nat)) = _
          rw [hpt]
        have em : Int32.ofNat i + (1 : Int32) = Int32.ofNat (i + 1) := pu_add i 1
        -- going on without an end
        have hno : ¬ (pu_ce (σ 444) w h nb q l d i = true ∧ i ≤ pu_most (σ 444) q l) → pu_wp (k (Int32.ofNat (pu_el (σ 444) w h nb q l c i).length, pu_eR (pu_step (σ 444) w h nb d (pu_bear (σ 444) q l)), Int32.ofNat i + 1, σ1)) (fun r => r.1 = Int32.ofNat (pu_L (σ 444) w h nb q l c).length ∧ pu_hasL r.2 (pu_L (σ 444) w h nb q l c) ∧ pu_fr pu_F9 σ r.2) := by
          intro hno
          have hel : pu_el (σ 444) w h nb q l c (i + 1) = pu_el (σ 444) w h nb q l c i := by rw [helS, if_neg (fun z => hno ⟨z.1, z.2.1⟩)]
          rw [em]
          refine hkk _ ⟨i + 1, by omega, rfl, by rw [hptS], by rw [hel], by rw [hel]; exact hL, by rw [hel]; exact hK, hF⟩ ?_
          show 100 - (Int32.ofNat (i + 1)).toNatClampNeg < 100 - (Int32.ofNat i).toNatClampNeg
          rw [pu_n (by omega), pu_n (by omega)]
          omega
        -- an end is laid down
        have hyes : pu_ce (σ 444) w h nb q l d i = true → i ≤ pu_most (σ 444) q l → pu_wp (tw_ck (tw_ok (Int32.ofNat (pu_el (σ 444) w h nb q l c i).length) 36) (tw_ck (tw_ok (Int32.ofNat (pu_el (σ 444) w h nb q l c i).length) 36) (if Int32.ofNat (pu_kind (σ 444) q l) = 0 then k (Int32.ofNat (pu_el (σ 444) w h nb q l c i).length + 1, pu_eR (pu_step (σ 444) w h nb d (pu_bear (σ 444) q l)), Int32.ofNat i + 1, tw_up (tw_up σ1 455 (Int32.ofNat (pu_el (σ 444) w h nb q l c i).length).toNatClampNeg (Int32.ofNat d)) 456 (Int32.ofNat (pu_el (σ 444) w h nb q l c i).length).toNatClampNeg (Int32.ofNat i)) else some (Int32.ofNat (pu_el (σ 444) w h nb q l c i).length + 1, tw_up (tw_up σ1 455 (Int32.ofNat (pu_el (σ 444) w h nb q l c i).length).toNatClampNeg (Int32.ofNat d)) 456 (Int32.ofNat (pu_el (σ 444) w h nb q l c i).length).toNatClampNeg (Int32.ofNat i))))) (fun r => r.1 = Int32.ofNat (pu_L (σ 444) w h nb q l c).length ∧ pu_hasL r.2 (pu_L (σ 444) w h nb q l c) ∧ pu_fr pu_F9 σ r.2) := by
          intro hce hmo
          have hl36 : (pu_el (σ 444) w h nb q l c i).length < 36 := by
            rcases hK with z | z
            · have : pu_most (σ 444) q l = pu_many (σ 444) q l + pu_give (σ 444) q l := by unfold pu_most; rw [if_pos z]
              obtain ⟨⟨-, m2⟩, ⟨-, m4⟩⟩ := hk0 z
              have m2 : pu_many (σ 444) q l < 31 := m2
              have m4 : pu_give (σ 444) q l < 6 := m4
              omega
            · rw [z]; decide
          refine pu_ck (pu_ok (by omega) hl36) (pu_ck (pu_ok (by omega) hl36) ?_)
          rw [pu_n (by omega)]
          have hel : pu_el (σ 444) w h nb q l c (i + 1) = pu_el (σ 444) w h nb q l c i ++ [(d, i)] := by rw [helS, if_pos ⟨hce, hmo, hK⟩]
          have hln : (pu_el (σ 444) w h nb q l c (i + 1)).length = (pu_el (σ 444) w h nb q l c i).length + 1 := by rw [hel, List.length_append]; rfl
          have e1 : Int32.ofNat (pu_el (σ 444) w h nb q l c i).length + (1 : Int32) = Int32.ofNat (pu_el (σ 444) w h nb q l c (i + 1)).length := by rw [hln]; exact pu_add _ 1
          have hL2 : pu_hasL (tw_up (tw_up σ1 455 (pu_el (σ 444) w h nb q l c i).length (Int32.ofNat d)) 456 (pu_el (σ 444) w h nb q l c i).length (Int32.ofNat i)) (pu_el (σ 444) w h nb q l c (i + 1)) := by
            intro j x hx
            rw [hel] at hx
            rw [tw_up_n (show 455 ≠ 456 by decide), tw_up_s, tw_up_s, tw_up_n (show 456 ≠ 455 by decide)]
            unfold upd
            by_cases hj : j = (pu_el (σ 444) w h nb q l c i).length
            · rw [if_pos hj, if_pos hj]
              rw [hj, List.getElem?_append_right (Nat.le_refl _), Nat.sub_self] at hx
              cases hx
              exact ⟨rfl, rfl⟩
            · rw [if_neg hj, if_neg hj]
              have hjl : j < (pu_el (σ 444) w h nb q l c i).length := by
                have := (List.getElem?_eq_some_iff.mp hx).1
                rw [List.length_append] at this
                have : j < (pu_el (σ 444) w h nb q l c i).length + 1 := this
                omega
              rw [List.getElem?_append_left hjl] at hx
              exact hL j x hx
          have hF2 : pu_fr pu_F9 σ (tw_up (tw_up σ1 455 (pu_el (σ 444) w h nb q l c i).length (Int32.ofNat d)) 456 (pu_el (σ 444) w h nb q l c i).length (Int32.ofNat i)) := pu_fr_trans hF (pu_fr_trans (pu_fr_up (Or.inl rfl)) (pu_fr_up (Or.inr rfl)))
          rw [e1, em]
          refine pu_if (fun y => ?_) (fun y => ?_)
          · have y := kz.mp y
            refine hkk _ ⟨i + 1, by omega, rfl, by rw [hptS], rfl, hL2, Or.inl y, hF2⟩ ?_
            show 100 - (Int32.ofNat (i + 1)).toNatClampNeg < 100 - (Int32.ofNat i).toNatClampNeg
            rw [pu_n (by omega), pu_n (by omega)]
            omega
          · have y : pu_kind (σ 444) q l ≠ 0 := fun e => y (kz.mpr e)
            have hkeep : ∀ j, pu_el (σ 444) w h nb q l c (i + 1 + j) = pu_el (σ 444) w h nb q l c (i + 1) := by
              intro j
              induction j with
              | zero => rfl
              | succ j ih =>
                rw [show i + 1 + (j + 1) = (i + 1 + j) + 1 from by omega, pu_el_S, ih]
                split
                · rw [if_neg]
                  rintro ⟨z1, z2, z3⟩
                  rcases z3 with z3 | z3
                  · exact y z3
                  · rw [hel] at z3; simp at z3
                · rfl
            have eL : pu_L (σ 444) w h nb q l c = pu_el (σ 444) w h nb q l c (i + 1) := by
              unfold pu_L
              have := hkeep (pu_most (σ 444) q l - i)
              rwa [show i + 1 + (pu_most (σ 444) q l - i) = pu_most (σ 444) q l + 1 from by omega] at this
            rw [eL]
            exact pu_some ⟨rfl, hL2, hF2⟩
        -- which it is, by the kind
        refine pu_if (fun y => ?_) (fun y => ?_)
        · have y0 : pu_kind (σ 444) q l ≠ 0 := fun e => y (kz.mpr e)
          refine pu_if (fun y => ?_) (fun y => ?_)
          · have y1 : pu_kind (σ 444) q l ≠ 1 := fun e => y (ko.mpr e)
            have hk2 : pu_kind (σ 444) q l = 2 := by omega
            have hm59 : pu_most (σ 444) q l = 59 := by unfold pu_most; rw [if_neg y0, if_neg y1]
            have hcee : pu_ce (σ 444) w h nb q l d i = (pu_step (σ 444) w h nb d (pu_bear (σ 444) q l)).isNone := by unfold pu_ce; rw [if_neg y0, if_neg y1]
            refine pu_if (fun z => ?_) (fun z => ?_)
            · refine pu_lt (pu_ift rfl (pu_lt (pu_lt (hno ?_))))
              rintro ⟨z1, -⟩
              rw [hcee] at z1
              exact z ((pu_eR_m1 hle (fun x hx => pu_step_lt hm hd hx)).mpr (Option.isNone_iff_eq_none.mp z1))
            · have z := (pu_eR_m1 hle (fun x hx => pu_step_lt hm hd hx)).mp (Classical.not_not.mp z)
              refine pu_if (fun z2 => ?_) (fun z2 => ?_)
              · have z2 := (pu_le (a := 60) (by decide) (by omega)).mp z2
                refine pu_lt (pu_ift rfl (pu_lt (pu_lt (hno ?_))))
                rintro ⟨-, z3⟩
                omega
              · have z2 : i < 60 := by
                  rcases Nat.lt_or_ge i 60 with u | u
                  · exact u
                  · exact absurd ((pu_le (a := 60) (by decide) (by omega)).mpr u) z2
                exact pu_lt (pu_iff (by decide) (hyes (by rw [hcee, z]; rfl) (by omega)))
          · have hk1' : pu_kind (σ 444) q l = 1 := ko.mp (Classical.not_not.mp y)
            obtain ⟨⟨m1, m2⟩, ⟨m3, m4⟩⟩ := hk1 hk1'
            have m1 : σ 444 (pu_lg q l + 1) = Int32.ofNat (pu_many (σ 444) q l) := m1
            have m2 : pu_many (σ 444) q l < 8 := m2
            have hg : pu_goal (σ 444) q l = some (pu_v (σ 444) (808 + pu_many (σ 444) q l)) := by unfold pu_goal; rw [if_pos hk1']
            have hm60 : pu_most (σ 444) q l = M := hM2 (by omega)
            have ea : (808 : Int32) + Int32.ofNat (pu_many (σ 444) q l) = Int32.ofNat (808 + pu_many (σ 444) q l) := pu_add 808 _
            have hcee : pu_ce (σ 444) w h nb q l d i = decide (pu_goal (σ 444) q l = some d) := by unfold pu_ce; rw [if_neg y0, if_pos hk1']
            refine pu_ck (pu_ok (by omega) (by omega)) ?_
            refine pu_ck (by rw [e4, m1, ea]; exact pu_ok (by omega) (by omega)) ?_
            refine pu_if (fun z => ?_) (fun z => ?_)
            · rw [e4, m1, ea, pu_n (by omega)] at z
              refine pu_lt (pu_ift rfl (pu_lt (pu_lt (hno ?_))))
              rintro ⟨z1, -⟩
              rw [hcee, hg] at z1
              have z1 := Option.some.inj (of_decide_eq_true z1)
              rw [m3, z1] at z
              exact z rfl
            · have z := Classical.not_not.mp z
              rw [e4, m1, ea, pu_n (by omega), m3] at z
              have z := (pu_eq (by omega) (by omega)).mp z
              exact pu_lt (pu_iff (by decide) (hyes (by rw [hcee, hg, ← z]; exact decide_eq_true rfl) (by omega)))
        · have y0 : pu_kind (σ 444) q l = 0 := kz.mp (Classical.not_not.mp y)
          have hcee : pu_ce (σ 444) w h nb q l d i = decide (pu_few (σ 444) q l ≤ i) := by unfold pu_ce; rw [if_pos y0]
          have hmM : pu_most (σ 444) q l = M := hM2 (by omega)
          refine pu_if (fun z => ?_) (fun z => ?_)
          · have z := (hleast y0 i (by omega)).mp z
            refine pu_lt (pu_ift rfl (pu_lt (pu_lt (hno ?_))))
            rintro ⟨z1, -⟩
            rw [hcee] at z1
            exact z (of_decide_eq_true z1)
          · have z : pu_few (σ 444) q l ≤ i := by
              by_cases u : pu_few (σ 444) q l ≤ i
              · exact u
              · exact absurd ((hleast y0 i (by omega)).mpr u) z
            exact pu_lt (pu_iff (by decide) (hyes (by rw [hcee]; exact decide_eq_true z) (by omega)))
