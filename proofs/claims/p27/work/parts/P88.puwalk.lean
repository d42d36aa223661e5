/-! walks: the first end of a leg from which the rest leads to the goal -/
noncomputable def pu_fe (a : Nat → Int32) (w h nb q l : Nat) (S : Nat → Prop) (c : Nat) : Nat → Option (Nat × Nat)
  | 0 => none
  | i + 1 => match pu_fe a w h nb q l S c i with
    | some x => some x
    | none => match pu_pt a w h nb (pu_bear a q l) c i with
      | some d => if pu_ce a w h nb q l d i = true ∧ i ≤ pu_most a q l ∧ pu_B (S d) = true then some (d, i) else none
      | none => none
theorem pu_fe_S {a : Nat → Int32} {w h nb q l c i : Nat} {S : Nat → Prop} : pu_fe a w h nb q l S c (i + 1) = (match pu_fe a w h nb q l S c i with
    | some x => some x
    | none => match pu_pt a w h nb (pu_bear a q l) c i with
      | some d => if pu_ce a w h nb q l d i = true ∧ i ≤ pu_most a q l ∧ pu_B (S d) = true then some (d, i) else none
      | none => none) := rfl
theorem pu_fe_at {a : Nat → Int32} {w h nb q l c i d : Nat} {S : Nat → Prop} (h0 : pu_fe a w h nb q l S c i = none) (hp : pu_pt a w h nb (pu_bear a q l) c i = some d) : pu_fe a w h nb q l S c (i + 1) = if pu_ce a w h nb q l d i = true ∧ i ≤ pu_most a q l ∧ pu_B (S d) = true then some (d, i) else none := by
  rw [pu_fe_S, h0, hp]
theorem pu_fe_up {a : Nat → Int32} {w h nb q l c i : Nat} {S : Nat → Prop} {x : Nat × Nat} (hx : pu_fe a w h nb q l S c i = some x) : ∀ k, pu_fe a w h nb q l S c (i + k) = some x
  | 0 => hx
  | k + 1 => by
    rw [show i + (k + 1) = (i + k) + 1 from rfl, pu_fe_S, pu_fe_up hx k]
theorem pu_fe_dry {a : Nat → Int32} {w h nb q l c i : Nat} {S : Nat → Prop} (h0 : pu_fe a w h nb q l S c i = none) (hp : ∀ j, i ≤ j → j ≤ pu_most a q l → pu_pt a w h nb (pu_bear a q l) c j = none) : ∀ k, pu_fe a w h nb q l S c (i + k) = none
  | 0 => h0
  | k + 1 => by
    rw [show i + (k + 1) = (i + k) + 1 from rfl, pu_fe_S, pu_fe_dry h0 hp k]
    dsimp only []
    cases e : pu_pt a w h nb (pu_bear a q l) c (i + k) with
    | none => rfl
    | some d =>
      dsimp only []
      refine if_neg (fun z => ?_)
      rw [hp (i + k) (by omega) z.2.1] at e
      cases e
theorem pu_fe_in {a : Nat → Int32} {w h nb q l c : Nat} {S : Nat → Prop} : ∀ i x, pu_fe a w h nb q l S c i = some x → x.2 < i ∧ x.2 ≤ pu_most a q l ∧ pu_pt a w h nb (pu_bear a q l) c x.2 = some x.1 ∧ pu_ce a w h nb q l x.1 x.2 = true ∧ S x.1
  | 0, x, hx => by cases hx
  | i + 1, x, hx => by
    rw [pu_fe_S] at hx
    cases e : pu_fe a w h nb q l S c i with
    | some y =>
      rw [e] at hx
      cases hx
      obtain ⟨z1, z2⟩ := pu_fe_in i x e
      exact ⟨by omega, z2⟩
    | none =>
      rw [e] at hx
      dsimp only [] at hx
      cases ep : pu_pt a w h nb (pu_bear a q l) c i with
      | none => rw [ep] at hx; cases hx
      | some d =>
        rw [ep] at hx
        dsimp only [] at hx
        by_cases hc : pu_ce a w h nb q l d i = true ∧ i ≤ pu_most a q l ∧ pu_B (S d) = true
        · rw [if_pos hc] at hx
          cases hx
          exact ⟨Nat.lt_succ_self _, hc.2.1, ep, hc.1, pu_B_iff.mp hc.2.2⟩
        · rw [if_neg hc] at hx
          cases hx
/-- that end, if there is one -/
noncomputable def pu_fst (a : Nat → Int32) (w h nb q l : Nat) (S : Nat → Prop) (c : Nat) : Option (Nat × Nat) := pu_fe a w h nb q l S c (pu_most a q l + 1)
theorem pu_fst_E {a : Nat → Int32} {w h nb q l c : Nat} {S : Nat → Prop} {x : Nat × Nat} (hx : pu_fst a w h nb q l S c = some x) : pu_E a w h nb q l c x.1 ∧ S x.1 := by
  obtain ⟨h1, h2, h3, h4, h5⟩ := pu_fe_in _ x hx
  exact ⟨⟨x.2, h2, h3, h4⟩, h5⟩
theorem pu_fst_ex {a : Nat → Int32} {w h nb q l c d : Nat} {S : Nat → Prop} (hE : pu_E a w h nb q l c d) (hS : S d) : ∃ x, pu_fst a w h nb q l S c = some x := by
  obtain ⟨i, h1, h2, h3⟩ := hE
  unfold pu_fst
  cases e : pu_fe a w h nb q l S c i with
  | some x =>
    have := pu_fe_up e (pu_most a q l + 1 - i)
    rw [show i + (pu_most a q l + 1 - i) = pu_most a q l + 1 from by omega] at this
    exact ⟨x, this⟩
  | none =>
    have e2 := pu_fe_at e h2
    rw [if_pos ⟨h3, h1, pu_B_t hS⟩] at e2
    have := pu_fe_up e2 (pu_most a q l + 1 - (i + 1))
    rw [show i + 1 + (pu_most a q l + 1 - (i + 1)) = pu_most a q l + 1 from by omega] at this
    exact ⟨_, this⟩
theorem pu_fe_cong {a : Nat → Int32} {w h nb q l c : Nat} {S T : Nat → Prop} (hST : ∀ d, pu_E a w h nb q l c d → (S d ↔ T d)) : ∀ i, pu_fe a w h nb q l S c i = pu_fe a w h nb q l T c i
  | 0 => rfl
  | i + 1 => by
    rw [pu_fe_S, pu_fe_S, pu_fe_cong hST i]
    cases pu_fe a w h nb q l T c i with
    | some x => rfl
    | none =>
      dsimp only []
      cases ep : pu_pt a w h nb (pu_bear a q l) c i with
      | none => rfl
      | some d =>
        dsimp only []
        by_cases hc : pu_ce a w h nb q l d i = true ∧ i ≤ pu_most a q l
        · rw [pu_B_cong (hST d ⟨i, hc.2, ep, hc.1⟩)]
        · rw [if_neg (fun z => hc ⟨z.1, z.2.1⟩), if_neg (fun z => hc ⟨z.1, z.2.1⟩)]
theorem pu_fst_cong {a : Nat → Int32} {w h nb q l c : Nat} {S T : Nat → Prop} (hST : ∀ d, pu_E a w h nb q l c d → (S d ↔ T d)) : pu_fst a w h nb q l S c = pu_fst a w h nb q l T c := pu_fe_cong hST _
/-- it is the first of the list's ends -/
theorem pu_fe_find {a : Nat → Int32} {w h nb q l c : Nat} {S : Nat → Prop} : ∀ i, (pu_el a w h nb q l c i).find? (fun x => pu_B (S x.1)) = pu_fe a w h nb q l S c i
  | 0 => rfl
  | i + 1 => by
    have ih := pu_fe_find (a := a) (w := w) (h := h) (nb := nb) (q := q) (l := l) (c := c) (S := S) i
    rw [pu_el_S, pu_fe_S]
    cases ep : pu_pt a w h nb (pu_bear a q l) c i with
    | none =>
      dsimp only []
      rw [ih]
      cases pu_fe a w h nb q l S c i <;> rfl
    | some d =>
      dsimp only []
      by_cases hc : pu_ce a w h nb q l d i = true ∧ i ≤ pu_most a q l ∧ (pu_kind a q l = 0 ∨ pu_el a w h nb q l c i = [])
      · rw [if_pos hc, List.find?_append, ih]
        cases pu_fe a w h nb q l S c i with
        | some x => rfl
        | none =>
          dsimp only [Option.or]
          by_cases hS : pu_B (S d) = true
          · rw [if_pos ⟨hc.1, hc.2.1, hS⟩, List.find?_cons_of_pos (by exact hS)]
          · rw [if_neg (fun z => hS z.2.2), List.find?_cons_of_neg (by exact hS)]
            rfl
      · rw [if_neg hc, ih]
        cases ef : pu_fe a w h nb q l S c i with
        | some x => rfl
        | none =>
          dsimp only []
          refine (if_neg (fun z => hc ⟨z.1, z.2.1, ?_⟩)).symm
          by_cases hk : pu_kind a q l = 0 ∨ pu_el a w h nb q l c i = []
          · exact hk
          exfalso
          have hk0 : pu_kind a q l ≠ 0 := fun e => hk (Or.inl e)
          have hne : pu_el a w h nb q l c i ≠ [] := fun e => hk (Or.inr e)
          obtain ⟨x, hx⟩ := List.exists_mem_of_ne_nil _ hne
          obtain ⟨y1, y2, y3, y4⟩ := pu_el_mem i x hx
          rw [ef] at ih
          have hnS := List.find?_eq_none.mp ih x hx
          have z1 := z.1
          unfold pu_ce at z1 y4
          rw [if_neg hk0] at z1 y4
          by_cases hk1 : pu_kind a q l = 1
          · rw [if_pos hk1] at z1 y4
            have z1 := of_decide_eq_true z1
            have y4 := of_decide_eq_true y4
            rw [y4] at z1
            have z1 := Option.some.inj z1
            rw [z1] at hnS
            exact hnS z.2.2
          · rw [if_neg hk1] at y4
            have y4 := Option.isNone_iff_eq_none.mp y4
            have hp : pu_pt a w h nb (pu_bear a q l) c (x.2 + 1) = none := by
              show (match pu_pt a w h nb (pu_bear a q l) c x.2 with | some d => pu_step a w h nb d (pu_bear a q l) | none => none) = none
              rw [y3]
              exact y4
            have := pu_pt_none hp (i - (x.2 + 1))
            rw [show x.2 + 1 + (i - (x.2 + 1)) = i from by omega, ep] at this
            cases this
/-- from a cell the last m legs lead to the goal -/
def pu_Rm (a : Nat → Int32) (w h nb q g : Nat) : Nat → Nat → Prop
  | 0, d => d = g
  | m + 1, d => ∃ e, pu_E a w h nb q (pu_nl a q - (m + 1)) d e ∧ pu_Rm a w h nb q g m e
/-- from a cell the legs from l on lead to the goal -/
def pu_Rl (a : Nat → Int32) (w h nb q g l : Nat) : Nat → Prop := pu_Rm a w h nb q g (pu_nl a q - l)
theorem pu_Rl_end {a : Nat → Int32} {w h nb q g d : Nat} : pu_Rl a w h nb q g (pu_nl a q) d ↔ d = g := by
  unfold pu_Rl
  rw [Nat.sub_self]
  exact Iff.rfl
theorem pu_Rl_S {a : Nat → Int32} {w h nb q g l d : Nat} (hl : l < pu_nl a q) : pu_Rl a w h nb q g l d ↔ ∃ e, pu_E a w h nb q l d e ∧ pu_Rl a w h nb q g (l + 1) e := by
  unfold pu_Rl
  rw [show pu_nl a q - l = (pu_nl a q - (l + 1)) + 1 from by omega]
  show (∃ e, pu_E a w h nb q (pu_nl a q - ((pu_nl a q - (l + 1)) + 1)) d e ∧ _) ↔ _
  rw [show pu_nl a q - ((pu_nl a q - (l + 1)) + 1) = l from by omega]
theorem pu_Rl_fst {a : Nat → Int32} {w h nb q g l d : Nat} (hl : l < pu_nl a q) : pu_Rl a w h nb q g l d ↔ ∃ x, pu_fst a w h nb q l (pu_Rl a w h nb q g (l + 1)) d = some x := by
  rw [pu_Rl_S hl]
  constructor
  · rintro ⟨e, h1, h2⟩
    exact pu_fst_ex h1 h2
  · rintro ⟨x, hx⟩
    exact ⟨x.1, pu_fst_E hx⟩
/-- what the class holds: of the cells to which the legs ahead can lead -/
def pu_Cl (a : Nat → Int32) (w h nb q g l : Nat) (d : Nat) : Prop := (l = pu_nl a q ∧ d = g) ∨ (l < pu_nl a q ∧ pu_Fw a w h nb q l d ∧ pu_Rl a w h nb q g l d)
theorem pu_Cl_of {a : Nat → Int32} {w h nb q g l c d : Nat} (hl : l < pu_nl a q) (hc : c < w * h) (hF : pu_Fw a w h nb q l c) (hE : pu_E a w h nb q l c d) : pu_Cl a w h nb q g (l + 1) d ↔ pu_Rl a w h nb q g (l + 1) d := by
  unfold pu_Cl
  by_cases e : l + 1 = pu_nl a q
  · rw [e, pu_Rl_end]
    constructor
    · rintro (⟨-, z⟩ | ⟨z, -⟩)
      · exact z
      · omega
    · intro z; exact Or.inl ⟨rfl, z⟩
  · constructor
    · rintro (⟨z, -⟩ | ⟨-, -, z⟩)
      · exact absurd z e
      · exact z
    · intro z; exact Or.inr ⟨by omega, ⟨c, hc, hF, hE⟩, z⟩
/-! the class's ways: sets at 117, 119, .. -/
def pu_Wa (l : Nat) : Nat := 117 + 2 * l
theorem pu_way {σ : tw_Sg} {l : Nat} (hl : l < 9) : tw_P_X5_at 112 (Int32.ofNat l) σ = some (116 + 2 * l) ∧ tw_kd (116 + 2 * l) = 0 := by
  have hk : tw_kd (116 + 2 * l) = 0 := eq_of_beq (tw_rng (n := 9) (p := fun i => tw_kd (116 + 2 * i) == 0) (by decide +kernel) l hl)
  refine ⟨?_, hk⟩
  unfold tw_P_X5_at
  dsimp only [tw_jn, tw_mt]
  rw [show tw_ln (112 + 3) = 9 from by decide +kernel, if_neg (pu_nn (by omega)), if_neg (by rw [pu_le (by omega) (by omega)]; omega), pu_ok (by omega) (by omega), pu_n (by omega)]
  rfl
def pu_F15 (k : Nat) : Prop := 117 ≤ k ∧ k < 135
theorem pu_wclear {σ : tw_Sg} {w h n : Nat} (hw : w ≤ 20) (hh : h ≤ 20) (hn : 100 < n) : pu_wp (tw_P_X5_clear n 112 σ) (fun σ' => (∀ i, i < 9 → pu_set σ' (pu_Wa i) w (w * h) (fun _ => false)) ∧ pu_fr pu_F15 σ σ') := by
  unfold tw_P_X5_clear
  rw [show tw_ln (112 + 3) = 9 from by decide +kernel]
  refine pu_lt ?_
  refine pu_lp (J := fun s => ∃ i, i ≤ 9 ∧ s.1 = Int32.ofNat i ∧ (∀ i', i' < i → pu_set s.2 (pu_Wa i') w (w * h) (fun _ => false)) ∧ pu_fr pu_F15 σ s.2) (m := fun s => 40 - s.1.toNatClampNeg) ?_ n _ (by show 40 - _ < n; omega) ⟨0, by omega, rfl, fun i' hi' => absurd hi' (Nat.not_lt_zero _), pu_fr_refl⟩
  rintro k ⟨ii, σ1⟩ ⟨i, hi, e1, hS, hF⟩ hk
  dsimp only [] at e1 hS hF
  subst e1
  dsimp only []
  refine pu_if (fun hc => ?_) (fun hc => ?_)
  · have hc := (pu_le (by decide) (by omega)).mp hc
    exact pu_some ⟨fun i' hi' => hS i' (by omega), hF⟩
  · have hc : i < 9 := by rw [pu_le (by decide) (by omega)] at hc; omega
    obtain ⟨y1, hkd⟩ := pu_way (σ := σ1) hc
    refine pu_bde y1 (pu_ck (decide_eq_true hkd) ?_)
    refine pu_bde (pu_clear hkd (by omega)) ?_
    refine pu_lt ?_
    have em : Int32.ofNat i + (1 : Int32) = Int32.ofNat (i + 1) := pu_add i 1
    rw [em, show 116 + 2 * i + 1 = pu_Wa i from by unfold pu_Wa; omega]
    refine hk _ ⟨i + 1, by omega, rfl, fun i' hi' => ?_, pu_fr_trans hF (pu_fr_upA (by unfold pu_F15 pu_Wa; omega))⟩ ?_
    · by_cases e : i' = i
      · subst e
        have hl : tw_ln (pu_Wa i') = 22 := by
          have := pu_l22 hkd
          rwa [show 116 + 2 * i' + 1 = pu_Wa i' from by unfold pu_Wa; omega] at this
        exact pu_set_clear hl (fun c hc => by have := pu_sp_rng hw hh hc; omega)
      · exact pu_set_cong (hS i' (by omega)) (pu_fill_n (by unfold pu_Wa; omega))
    · show 40 - (Int32.ofNat (i + 1)).toNatClampNeg < 40 - (Int32.ofNat i).toNatClampNeg
      rw [pu_n (by omega), pu_n (by omega)]
      omega
theorem pu_cfewest {σ : tw_Sg} {a : Nat → Int32} {w h nb nc q l c n : Nat} {S : Nat → Prop} (H : pu_cl1 σ a w h nb nc) (hn : 500 < n) (hq : q < nc) (hl : l < pu_nl a q) (hc : c < w * h) (hS : pu_set σ (pu_Wa (l + 1)) w (w * h) (fun d => pu_B (S d))) : pu_wp (tw_P_X10_fewestPaces n (Int32.ofNat q) (Int32.ofNat l) (Int32.ofNat (pu_sp w c)) σ) (fun r => r = (match pu_fst a w h nb q l S c with | some x => Int32.ofNat x.2 | none => -1)) := by
  obtain ⟨hm, hcc, hCD, ht⟩ := id H
  have hw := hm.2.2.2.1
  have hh := hm.2.2.2.2.2
  obtain ⟨-, hnc, hcq⟩ := id hcc
  obtain ⟨-, -, ⟨-, hnl⟩, -, hlq⟩ := hcq q hq
  have hnl : pu_nl a q < 9 := hnl
  have hwl := hlq l hl
  obtain ⟨-, -, -, -, -, hcd⟩ := id hCD
  obtain ⟨-, -, -, -, hcl⟩ := hcd q hq
  obtain ⟨-, l2, -, l4, -⟩ := hcl l hl
  have l2 : σ 26 (8 * q + l) = _ := l2
  have l4 : σ 30 (8 * q + l) = _ := l4
  have hix : 8 * q + l < 32 := by omega
  obtain ⟨f1, f2⟩ := pu_few_lt hwl
  have hb : pu_v a (pu_lg q l + 3) < 8 := hwl.2.1.2
  have ei : Int32.ofNat q * (8 : Int32) + Int32.ofNat l = Int32.ofNat (8 * q + l) := by
    show Int32.ofNat q * Int32.ofNat 8 + Int32.ofNat l = _
    rw [pu_mul, pu_add, Nat.mul_comm]
  unfold tw_P_X10_fewestPaces
  refine pu_lt ?_
  rw [ei]
  refine pu_bde (pu_get (N := 32) (by decide +kernel) (by decide) hix) ?_
  rw [show 29 + 1 = 30 from rfl, l4]
  refine pu_lt (pu_lt (pu_lt ?_))
  refine pu_lp (J := fun s => ∃ i, i ≤ pu_most a q l + 1 ∧ s.2 = Int32.ofNat i ∧ s.1 = pu_eS w (pu_pt a w h nb (pu_bear a q l) c i) ∧ pu_fe a w h nb q l S c i = none) (m := fun s => 100 - s.2.toNatClampNeg) ?_ n _ (by show 100 - _ < n; omega) ⟨0, by omega, rfl, rfl, rfl⟩
  rintro k ⟨sp, ii⟩ ⟨i, hi, e1, e2, h0⟩ hk1
  dsimp only [] at e1 e2
  subst e1; subst e2
  dsimp only [tw_jn]
  have hptl := fun d => pu_pt_lt (nb := nb) (b := pu_bear a q l) hm hc i d
  have hdone : (∀ j, i ≤ j → j ≤ pu_most a q l → pu_pt a w h nb (pu_bear a q l) c j = none) → pu_wp (some (-1 : Int32)) (fun r => r = (match pu_fst a w h nb q l S c with | some x => Int32.ofNat x.2 | none => -1)) := fun hend => by
    have := pu_fe_dry h0 hend (pu_most a q l + 1 - i)
    rw [show i + (pu_most a q l + 1 - i) = pu_most a q l + 1 from by omega] at this
    refine pu_some ?_
    unfold pu_fst
    rw [this]
  refine pu_if (fun hc1 => ?_) (fun hc1 => ?_)
  · have hc1 := (pu_ltn (by omega) (by omega)).mp hc1
    exact hdone (fun j j1 j2 => by omega)
  have hc1 : i ≤ pu_most a q l := by rw [pu_ltn (by omega) (by omega)] at hc1; omega
  refine pu_if (fun hz => ?_) (fun hz => ?_)
  · have hz := (pu_eS0 hw hh hptl).mp hz
    refine hdone (fun j j1 j2 => ?_)
    have := pu_pt_none hz (j - i)
    rwa [show i + (j - i) = j from by omega] at this
  cases hpt : pu_pt a w h nb (pu_bear a q l) c i with
  | none => rw [hpt] at hz; exact absurd rfl hz
  | some d =>
    have hd := hptl d hpt
    rw [show pu_eS w (some d) = Int32.ofNat (pu_sp w d) from rfl]
    have el : Int32.ofNat l + (1 : Int32) = Int32.ofNat (l + 1) := pu_add l 1
    rw [el]
    obtain ⟨y1, y2⟩ := pu_way (σ := σ) (l := l + 1) (by omega)
    refine pu_bde y1 (pu_ck (decide_eq_true y2) ?_)
    have hS' : pu_set σ (116 + 2 * (l + 1) + 1) w (w * h) (fun d => pu_B (S d)) := by
      rw [show 116 + 2 * (l + 1) + 1 = pu_Wa (l + 1) from by unfold pu_Wa; omega]; exact hS
    refine pu_bde (pu_hasS y2 hw hh hd hS') ?_
    have hat := pu_fe_at h0 hpt
    have hgo : pu_fe a w h nb q l S c (i + 1) = none → pu_wp (tw_bd (tw_P_X7_get 25 (Int32.ofNat (8 * q + l)) σ) (fun r15 => tw_bd (tw_P_X10_step (Int32.ofNat (pu_sp w d)) r15 σ) (fun r16 => tw_lt r16 (fun v17 => tw_lt (Int32.ofNat i + (1 : Int32)) (fun v18 => k (v17, v18)))))) (fun r => r = (match pu_fst a w h nb q l S c with | some x => Int32.ofNat x.2 | none => -1)) := fun hnx => by
      refine pu_bde (pu_get (N := 32) (by decide +kernel) (by decide) hix) ?_
      rw [show 25 + 1 = 26 from rfl, l2, hwl.2.1.1]
      refine pu_bde (pu_cstep hm hCD.2.1 ht hd hb) ?_
      refine pu_lt (pu_lt ?_)
      have em : Int32.ofNat i + (1 : Int32) = Int32.ofNat (i + 1) := pu_add i 1
      rw [em]
      refine hk1 _ ⟨i + 1, by omega, rfl, ?_, hnx⟩ ?_
      · show pu_eS w (pu_step a w h nb d (pu_bear a q l)) = pu_eS w (match pu_pt a w h nb (pu_bear a q l) c i with | some d => pu_step a w h nb d (pu_bear a q l) | none => none)
        rw [hpt]
      · show 100 - (Int32.ofNat (i + 1)).toNatClampNeg < 100 - (Int32.ofNat i).toNatClampNeg
        rw [pu_n (by omega), pu_n (by omega)]
        omega
    refine pu_if (fun c2 => ?_) (fun c2 => ?_)
    · rw [pu_b1_0] at c2
      exact hgo (by rw [hat, if_neg (fun z => by rw [c2] at z; exact absurd z.2.2 (by decide))])
    · rw [pu_b1_0] at c2
      have c2 := pu_bF c2
      refine pu_bde (pu_canEnd H hq hl hd (by omega)) ?_
      cases hce : pu_ce a w h nb q l d i with
      | false =>
        refine pu_ift (by simp) (hgo ?_)
        rw [hat, if_neg (fun z => by rw [hce] at z; exact absurd z.1 (by decide))]
      | true =>
        refine pu_iff (by simp) (pu_some ?_)
        rw [if_pos ⟨hce, hc1, c2⟩] at hat
        have := pu_fe_up hat (pu_most a q l + 1 - (i + 1))
        rw [show i + 1 + (pu_most a q l + 1 - (i + 1)) = pu_most a q l + 1 from by omega] at this
        unfold pu_fst
        rw [this]
