/-! the reference's ends of a leg: (cell, paces) by ascending paces; of legs that don't go, the first alone -/
def pu_el (a : Nat → Int32) (w h nb q l c : Nat) : Nat → List (Nat × Nat)
  | 0 => []
  | i + 1 => match pu_pt a w h nb (pu_bear a q l) c i with
    | some d => if pu_ce a w h nb q l d i = true ∧ i ≤ pu_most a q l ∧ (pu_kind a q l = 0 ∨ pu_el a w h nb q l c i = []) then pu_el a w h nb q l c i ++ [(d, i)] else pu_el a w h nb q l c i
    | none => pu_el a w h nb q l c i
theorem pu_el_S {a : Nat → Int32} {w h nb q l c i : Nat} : pu_el a w h nb q l c (i + 1) = match pu_pt a w h nb (pu_bear a q l) c i with
    | some d => if pu_ce a w h nb q l d i = true ∧ i ≤ pu_most a q l ∧ (pu_kind a q l = 0 ∨ pu_el a w h nb q l c i = []) then pu_el a w h nb q l c i ++ [(d, i)] else pu_el a w h nb q l c i
    | none => pu_el a w h nb q l c i := rfl
theorem pu_el_len {a : Nat → Int32} {w h nb q l c : Nat} : ∀ i, (pu_el a w h nb q l c i).length ≤ i
  | 0 => Nat.le_refl _
  | i + 1 => by
    have ih := pu_el_len (a := a) (w := w) (h := h) (nb := nb) (q := q) (l := l) (c := c) i
    show (match pu_pt a w h nb (pu_bear a q l) c i with | some d => _ | none => _ : List (Nat × Nat)).length ≤ i + 1
    split
    · split
      · rw [List.length_append]; show _ + 1 ≤ _; omega
      · omega
    · omega
theorem pu_el_mem {a : Nat → Int32} {w h nb q l c : Nat} : ∀ i x, x ∈ pu_el a w h nb q l c i → x.2 < i ∧ x.2 ≤ pu_most a q l ∧ pu_pt a w h nb (pu_bear a q l) c x.2 = some x.1 ∧ pu_ce a w h nb q l x.1 x.2 = true
  | 0, x, hx => by cases hx
  | i + 1, x, hx => by
    have ih := pu_el_mem (a := a) (w := w) (h := h) (nb := nb) (q := q) (l := l) (c := c) i x
    have hx : x ∈ (match pu_pt a w h nb (pu_bear a q l) c i with | some d => if pu_ce a w h nb q l d i = true ∧ i ≤ pu_most a q l ∧ (pu_kind a q l = 0 ∨ pu_el a w h nb q l c i = []) then pu_el a w h nb q l c i ++ [(d, i)] else pu_el a w h nb q l c i | none => pu_el a w h nb q l c i) := hx
    split at hx
    · rename_i d hd
      split at hx
      · rename_i hc
        rcases List.mem_append.mp hx with z | z
        · obtain ⟨z1, z2⟩ := ih z; exact ⟨by omega, z2⟩
        · rw [List.mem_singleton.mp z]
          exact ⟨Nat.lt_succ_self _, hc.2.1, hd, hc.1⟩
      · obtain ⟨z1, z2⟩ := ih hx; exact ⟨by omega, z2⟩
    · obtain ⟨z1, z2⟩ := ih hx; exact ⟨by omega, z2⟩
/-- the ends themselves -/
def pu_L (a : Nat → Int32) (w h nb q l c : Nat) : List (Nat × Nat) := pu_el a w h nb q l c (pu_most a q l + 1)
theorem pu_el_grow {a : Nat → Int32} {w h nb q l c i : Nat} : ∀ k, ∀ x, x ∈ pu_el a w h nb q l c i → x ∈ pu_el a w h nb q l c (i + k)
  | 0, _, hx => hx
  | k + 1, x, hx => by
    have ih := pu_el_grow k x hx
    show x ∈ (match pu_pt a w h nb (pu_bear a q l) c (i + k) with | some d => _ | none => _ : List (Nat × Nat))
    split
    · split
      · exact List.mem_append.mpr (Or.inl ih)
      · exact ih
    · exact ih
/-- every end of the leg is in the list, or a first one of the same cell is -/
theorem pu_el_all {a : Nat → Int32} {w h nb q l c i d : Nat} (hi : i ≤ pu_most a q l) (hp : pu_pt a w h nb (pu_bear a q l) c i = some d) (hc : pu_ce a w h nb q l d i = true) : ∃ j, j ≤ i ∧ (d, j) ∈ pu_el a w h nb q l c (i + 1) := by
  by_cases hk : pu_kind a q l = 0 ∨ pu_el a w h nb q l c i = []
  · refine ⟨i, Nat.le_refl _, ?_⟩
    show (d, i) ∈ (match pu_pt a w h nb (pu_bear a q l) c i with | some d => _ | none => _ : List (Nat × Nat))
    rw [hp]
    show (d, i) ∈ (if _ then _ else _ : List (Nat × Nat))
    rw [if_pos ⟨hc, hi, hk⟩]
    exact List.mem_append.mpr (Or.inr (List.mem_singleton.mpr rfl))
  · have hk0 : pu_kind a q l ≠ 0 := fun e => hk (Or.inl e)
    have hne : pu_el a w h nb q l c i ≠ [] := fun e => hk (Or.inr e)
    obtain ⟨x, hx⟩ := List.exists_mem_of_ne_nil _ hne
    obtain ⟨y1, y2, y3, y4⟩ := pu_el_mem i x hx
    have hxd : x.1 = d := by
      unfold pu_ce at hc y4
      rw [if_neg hk0] at hc y4
      by_cases hk1 : pu_kind a q l = 1
      · rw [if_pos hk1] at hc y4
        have e1 := of_decide_eq_true hc
        have e2 := of_decide_eq_true y4
        rw [e1] at e2
        exact (Option.some.inj e2).symm
      · rw [if_neg hk1] at hc y4
        exfalso
        have hn : pu_pt a w h nb (pu_bear a q l) c (x.2 + 1) = none := by
          show (match pu_pt a w h nb (pu_bear a q l) c x.2 with | some d => pu_step a w h nb d (pu_bear a q l) | none => none) = none
          rw [y3]
          exact Option.isNone_iff_eq_none.mp y4
        have := pu_pt_none hn (i - (x.2 + 1))
        rw [show x.2 + 1 + (i - (x.2 + 1)) = i from by omega, hp] at this
        cases this
    refine ⟨x.2, by omega, ?_⟩
    have := pu_el_grow 1 x hx
    rw [← hxd]
    exact this
theorem pu_L_E {a : Nat → Int32} {w h nb q l c d : Nat} : (∃ j, (d, j) ∈ pu_L a w h nb q l c) ↔ pu_E a w h nb q l c d := by
  constructor
  · rintro ⟨j, hj⟩
    obtain ⟨-, y2, y3, y4⟩ := pu_el_mem _ _ hj
    exact ⟨j, y2, y3, y4⟩
  · rintro ⟨i, h1, h2, h3⟩
    obtain ⟨j, -, hj⟩ := pu_el_all h1 h2 h3
    refine ⟨j, ?_⟩
    have := pu_el_grow (pu_most a q l - i) _ hj
    rw [show i + 1 + (pu_most a q l - i) = pu_most a q l + 1 from by omega] at this
    exact this
def pu_F9 (k : Nat) : Prop := k = 455 ∨ k = 456
def pu_hasL (σ : tw_Sg) (L : List (Nat × Nat)) : Prop := ∀ j x, L[j]? = some x → σ 455 j = Int32.ofNat x.1 ∧ σ 456 j = Int32.ofNat x.2
theorem pu_eR_m1 {o : Option Nat} {m : Nat} (hm : m ≤ 400) (ho : ∀ d, o = some d → d < m) : pu_eR o = (-1 : Int32) ↔ o = none := by
  cases o with
  | none => exact ⟨fun _ => rfl, fun _ => rfl⟩
  | some d =>
    have := ho d rfl
    constructor
    · intro e; exact absurd e (pu_nm1 (by omega))
    · intro e; cases e
theorem pu_lg_lt {q l : Nat} (hq : q < 4) (hl : l < 8) : pu_lg q l + 3 < 1028 := by unfold pu_lg; omega
