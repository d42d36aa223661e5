/-! ways of k paces; what a search measures is the shortest -/
section DQP
variable {g : Nat → Bool} {w h s : Nat}
def dq_pth (g : Nat → Bool) (w h s : Nat) : Nat → Nat → Prop
  | 0, c => c = s
  | k + 1, c => ∃ c', dq_pth g w h s k c' ∧ ∃ b, b < 8 ∧ pu_nbr g w h c' b = some c
theorem dq_pth_S {k c : Nat} : dq_pth g w h s (k + 1) c ↔ ∃ c', dq_pth g w h s k c' ∧ ∃ b, b < 8 ∧ pu_nbr g w h c' b = some c := Iff.rfl
theorem dq_pth_lt (hw : w ≤ 20) (hh : h ≤ 20) (hs : s < w * h) : ∀ k c, dq_pth g w h s k c → c < w * h
  | 0, c, z => by
    have z : c = s := z
    rw [z]; exact hs
  | k + 1, c, z => by
    obtain ⟨c', z1, b, hb, z2⟩ := z
    exact pu_nbr_lt hw hh (dq_pth_lt hw hh hs k c' z1) hb z2
/-- what holds of the search ahead of the place i -/
def dq_B (g : Nat → Bool) (w h s i : Nat) (st : pu_St) : Prop := (∀ j, j < st.2.2 → 0 ≤ st.1 (st.2.1 j)) ∧ (∀ x, 0 ≤ st.1 x → ∃ j, j < st.2.2 ∧ st.2.1 j = x) ∧ (∀ j j', j ≤ j' → j' < st.2.2 → st.1 (st.2.1 j) ≤ st.1 (st.2.1 j')) ∧ (i < st.2.2 → ∀ j, j < st.2.2 → st.1 (st.2.1 j) ≤ st.1 (st.2.1 i) + 1) ∧ (∀ j, j < i → j < st.2.2 → ∀ b, b < 8 → ∀ c', pu_nbr g w h (st.2.1 j) b = some c' → 0 ≤ st.1 c' ∧ st.1 c' ≤ st.1 (st.2.1 j) + 1) ∧ ∀ x, 0 ≤ st.1 x → dq_pth g w h s (st.1 x).toNat x
theorem dq_B_vis {i b : Nat} {st : pu_St} (hi : i < st.2.2) (hb : b < 8) (H : dq_B g w h s i st) : dq_B g w h s i (pu_vis g w h st (st.2.1 i) b) ∧ i < (pu_vis g w h st (st.2.1 i) b).2.2 ∧ (pu_vis g w h st (st.2.1 i) b).2.1 i = st.2.1 i ∧ (∀ x, 0 ≤ st.1 x → (pu_vis g w h st (st.2.1 i) b).1 x = st.1 x) ∧ ∀ c', pu_nbr g w h (st.2.1 i) b = some c' → 0 ≤ (pu_vis g w h st (st.2.1 i) b).1 c' ∧ (pu_vis g w h st (st.2.1 i) b).1 c' ≤ st.1 (st.2.1 i) + 1 := by
  obtain ⟨a1, a2, a3, a4, a5, a6⟩ := id H
  unfold pu_vis
  cases hn : pu_nbr g w h (st.2.1 i) b with
  | none => exact ⟨H, hi, rfl, fun _ _ => rfl, fun c' e => by cases e⟩
  | some y =>
    dsimp only []
    by_cases hy : st.1 y < 0
    · rw [if_pos hy]
      have hi0 := a1 i hi
      have hne : ∀ j, j < st.2.2 → st.2.1 j ≠ y := fun j hj e => by have := a1 j hj; rw [e] at this; omega
      have q1 : ∀ j, j < st.2.2 → va_up st.2.1 st.2.2 y j = st.2.1 j := fun j hj => by unfold va_up; rw [if_neg (by omega)]
      have q2 : va_up st.2.1 st.2.2 y st.2.2 = y := by unfold va_up; rw [if_pos rfl]
      have d1 : ∀ x, x ≠ y → va_up st.1 y (st.1 (st.2.1 i) + 1) x = st.1 x := fun x hx => by unfold va_up; rw [if_neg hx]
      have d2 : va_up st.1 y (st.1 (st.2.1 i) + 1) y = st.1 (st.2.1 i) + 1 := by unfold va_up; rw [if_pos rfl]
      have dq : ∀ j, j < st.2.2 → va_up st.1 y (st.1 (st.2.1 i) + 1) (va_up st.2.1 st.2.2 y j) = st.1 (st.2.1 j) := fun j hj => by rw [q1 j hj, d1 _ (hne j hj)]
      have dl : va_up st.1 y (st.1 (st.2.1 i) + 1) (va_up st.2.1 st.2.2 y st.2.2) = st.1 (st.2.1 i) + 1 := by rw [q2, d2]
      have keep : ∀ x, 0 ≤ st.1 x → va_up st.1 y (st.1 (st.2.1 i) + 1) x = st.1 x := fun x hx => d1 x (fun e => by rw [e] at hx; omega)
      refine ⟨⟨fun j hj => ?_, fun x hx => ?_, fun j j' hjj hj' => ?_, fun _ j hj => ?_, fun j hj hjl b' hb' c' hc' => ?_, fun x hx => ?_⟩, by dsimp only []; omega, q1 i hi, keep, fun c' e => by cases e; dsimp only []; rw [d2]; omega⟩
      all_goals dsimp only [] at *
      · by_cases e : j = st.2.2
        · rw [e, dl]; omega
        · rw [dq j (by omega)]; exact a1 j (by omega)
      · by_cases e : x = y
        · exact ⟨st.2.2, by omega, by rw [e, q2]⟩
        · rw [d1 x e] at hx
          obtain ⟨j, hj, ej⟩ := a2 x hx
          exact ⟨j, by omega, by rw [q1 j hj]; exact ej⟩
      · by_cases e : j' = st.2.2
        · rw [e, dl]
          by_cases e2 : j = st.2.2
          · rw [e2, dl]; omega
          · rw [dq j (by omega)]; exact a4 hi j (by omega)
        · rw [dq j' (by omega), dq j (by omega)]; exact a3 j j' hjj (by omega)
      · rw [dq i hi]
        by_cases e : j = st.2.2
        · rw [e, dl]; omega
        · rw [dq j (by omega)]; exact a4 hi j (by omega)
      · rw [q1 j (by omega)] at hc' ⊢
        obtain ⟨z1, z2⟩ := a5 j hj (by omega) b' hb' c' hc'
        rw [keep c' z1, keep _ (a1 j (by omega))]
        exact ⟨z1, z2⟩
      · by_cases e : x = y
        · rw [e, d2]
          have e2 : (st.1 (st.2.1 i) + 1).toNat = (st.1 (st.2.1 i)).toNat + 1 := by omega
          rw [e2]
          exact ⟨st.2.1 i, a6 _ hi0, b, hb, hn⟩
        · rw [d1 x e] at hx ⊢
          exact a6 x hx
    · rw [if_neg hy]
      refine ⟨H, hi, rfl, fun _ _ => rfl, fun c' e => ?_⟩
      cases e
      obtain ⟨j, hj, ej⟩ := a2 y (by omega)
      have := a4 hi j hj
      rw [ej] at this
      exact ⟨by omega, this⟩
theorem dq_B_visN {i : Nat} {st : pu_St} (hi : i < st.2.2) (H : dq_B g w h s i st) : ∀ b, b ≤ 8 → dq_B g w h s i (pu_visN g w h st (st.2.1 i) b) ∧ i < (pu_visN g w h st (st.2.1 i) b).2.2 ∧ (pu_visN g w h st (st.2.1 i) b).2.1 i = st.2.1 i ∧ (pu_visN g w h st (st.2.1 i) b).1 (st.2.1 i) = st.1 (st.2.1 i) ∧ ∀ b', b' < b → ∀ c', pu_nbr g w h (st.2.1 i) b' = some c' → 0 ≤ (pu_visN g w h st (st.2.1 i) b).1 c' ∧ (pu_visN g w h st (st.2.1 i) b).1 c' ≤ st.1 (st.2.1 i) + 1
  | 0, _ => ⟨H, hi, rfl, rfl, fun b' hb' => absurd hb' (Nat.not_lt_zero _)⟩
  | b + 1, hb => by
    obtain ⟨r1, r2, r3, r4, r5⟩ := dq_B_visN hi H b (by omega)
    have hS : pu_visN g w h st (st.2.1 i) (b + 1) = pu_vis g w h (pu_visN g w h st (st.2.1 i) b) (st.2.1 i) b := rfl
    rw [hS]
    generalize pu_visN g w h st (st.2.1 i) b = t at *
    have V := dq_B_vis (b := b) r2 (by omega) r1
    rw [r3] at V
    obtain ⟨v1, v2, v3, v4, v5⟩ := V
    have h0 : 0 ≤ t.1 (st.2.1 i) := by have := r1.1 i r2; rw [r3] at this; exact this
    refine ⟨v1, v2, v3, by rw [v4 _ h0]; exact r4, fun b' hb' c' hc' => ?_⟩
    by_cases e : b' = b
    · rw [e] at hc'
      have := v5 c' hc'
      rw [r4] at this
      exact this
    · obtain ⟨z1, z2⟩ := r5 b' (by omega) c' hc'
      rw [v4 c' z1]
      exact ⟨z1, z2⟩
theorem dq_B_bf {st : pu_St} (H : dq_B g w h s 0 st) : ∀ i, dq_B g w h s i (pu_bf g w h st i)
  | 0 => H
  | i + 1 => by
    have ih := dq_B_bf H i
    rw [pu_bf_S]
    generalize pu_bf g w h st i = t at *
    by_cases hi : i < t.2.2
    · rw [if_pos hi]
      obtain ⟨⟨a1, a2, a3, a4, a5, a6⟩, v2, v3, v4, v5⟩ := dq_B_visN hi ih 8 (by omega)
      generalize pu_visN g w h t (t.2.1 i) 8 = u at *
      refine ⟨a1, a2, a3, fun hl j hj => ?_, fun j hj hjl b hb c' hc' => ?_, a6⟩
      · have z1 := a4 v2 j hj
        have z2 := a3 i (i + 1) (by omega) hl
        omega
      · by_cases e : j = i
        · rw [e, v3] at hc'
          rw [e, v3, v4]
          exact v5 b hb c' hc'
        · exact a5 j (by omega) hjl b hb c' hc'
    · rw [if_neg hi]
      obtain ⟨a1, a2, a3, a4, a5, a6⟩ := ih
      exact ⟨a1, a2, a3, fun hl => by omega, fun j hj hjl => a5 j (by omega) hjl, a6⟩
theorem dq_B_0 : dq_B g w h s 0 (pu_st0 (fun _ => -1) s) := by
  have d1 : ∀ x, x ≠ s → va_up (fun _ => (-1 : Int)) s 0 x = -1 := fun x hx => by unfold va_up; rw [if_neg hx]
  have d2 : va_up (fun _ => (-1 : Int)) s 0 s = 0 := by unfold va_up; rw [if_pos rfl]
  refine ⟨fun j _ => ?_, fun x hx => ?_, fun j j' _ _ => ?_, fun _ j _ => ?_, fun j hj => absurd hj (Nat.not_lt_zero _), fun x hx => ?_⟩
  all_goals dsimp only [pu_st0] at *
  · rw [d2]; exact Int.le_refl 0
  · by_cases e : x = s
    · exact ⟨0, Nat.one_pos, e.symm⟩
    · rw [d1 x e] at hx; omega
  · rw [d2]; exact Int.le_refl 0
  · rw [d2]; omega
  · by_cases e : x = s
    · rw [e, d2]; exact rfl
    · rw [d1 x e] at hx; omega
/-- the search from s over the ground g -/
theorem dq_far_D (hw : w ≤ 20) (hh : h ≤ 20) (hs : s < w * h) : (pu_far g w h s).1 s = 0 ∧ (∀ c, 0 ≤ (pu_far g w h s).1 c → dq_pth g w h s ((pu_far g w h s).1 c).toNat c ∧ (pu_far g w h s).1 c ≤ 400) ∧ ∀ k c, dq_pth g w h s k c → 0 ≤ (pu_far g w h s).1 c ∧ (pu_far g w h s).1 c ≤ k := by
  obtain ⟨c0, BI⟩ := pu_far_BI (g := g) hw hh hs
  have hm := pu_m400 hw hh
  have hlen := pu_BI_le BI
  have B := dq_B_bf (g := g) (w := w) (h := h) dq_B_0 400 (s := s)
  have hst : pu_far g w h s = pu_bf g w h (pu_st0 (fun _ => -1) s) 400 := rfl
  rw [← hst] at B
  generalize hD : pu_far g w h s = D at *
  obtain ⟨a1, a2, a3, a4, a5, a6⟩ := B
  have up := pu_bf_up (g := g) hw hh (pu_st0_BI (d0 := fun _ => -1) (s := s) hs (by decide) (fun _ _ => ⟨by decide, by decide⟩)) 400
  rw [← hst] at up
  have hs0 : 0 ≤ D.1 s := up s (by show 0 ≤ va_up (fun _ => (-1 : Int)) s 0 s; unfold va_up; rw [if_pos rfl]; exact Int.le_refl 0)
  have hle : ∀ k c, dq_pth g w h s k c → 0 ≤ D.1 c ∧ D.1 c ≤ D.1 s + k := by
    intro k
    induction k with
    | zero =>
      intro c z
      have z : c = s := z
      rw [z]
      exact ⟨hs0, by omega⟩
    | succ k ih =>
      rintro c ⟨c', z1, b, hb, z2⟩
      obtain ⟨y1, y2⟩ := ih c' z1
      obtain ⟨j, hj, ej⟩ := a2 c' y1
      rw [← ej] at z2
      obtain ⟨x1, x2⟩ := a5 j (by omega) hj b hb c z2
      rw [ej] at x2
      exact ⟨x1, by omega⟩
  -- the start is measured 0
  have hz : D.1 s = 0 := by
    obtain ⟨j, hj, ej⟩ := a2 s hs0
    have q0 : ∀ i, 0 < (pu_bf g w h (pu_st0 (fun _ => -1) s) i).2.2 ∧ (pu_bf g w h (pu_st0 (fun _ => -1) s) i).2.1 0 = s ∧ (pu_bf g w h (pu_st0 (fun _ => -1) s) i).1 s = 0 := by
      intro i
      induction i with
      | zero => exact ⟨Nat.one_pos, rfl, by show va_up (fun _ => (-1 : Int)) s 0 s = 0; unfold va_up; rw [if_pos rfl]⟩
      | succ i ih =>
        have Bi := dq_B_bf (g := g) (w := w) (h := h) dq_B_0 i (s := s)
        rw [pu_bf_S]
        generalize pu_bf g w h (pu_st0 (fun _ => -1) s) i = t at *
        by_cases hi : i < t.2.2
        · rw [if_pos hi]
          have key : ∀ b, b ≤ 8 → 0 < (pu_visN g w h t (t.2.1 i) b).2.2 ∧ (pu_visN g w h t (t.2.1 i) b).2.1 0 = s ∧ (pu_visN g w h t (t.2.1 i) b).1 s = 0 := by
            intro b
            induction b with
            | zero => exact fun _ => ih
            | succ b ihb =>
              intro hb
              obtain ⟨u1, u2, u3⟩ := ihb (by omega)
              obtain ⟨r1, r2, r3, -⟩ := dq_B_visN hi Bi b (by omega)
              have hS : pu_visN g w h t (t.2.1 i) (b + 1) = pu_vis g w h (pu_visN g w h t (t.2.1 i) b) (t.2.1 i) b := rfl
              rw [hS]
              have q := pu_vis_q (g := g) (w := w) (h := h) (c := t.2.1 i) (b := b) (st := pu_visN g w h t (t.2.1 i) b)
              obtain ⟨-, -, -, v4, -⟩ := dq_B_vis (b := b) r2 (by omega) r1
              rw [r3] at v4
              exact ⟨by omega, by rw [q.2 0 u1]; exact u2, by rw [v4 s (by omega)]; exact u3⟩
          exact key 8 (Nat.le_refl _)
        · rw [if_neg hi]; exact ih
    have := (q0 400).2.2
    rw [← hst] at this
    exact this
  refine ⟨hz, fun c hc => ⟨a6 c hc, ?_⟩, fun k c z => ?_⟩
  · by_cases hcm : c < w * h
    · exact (BI.2.2 c hcm).2
    · exact absurd (dq_pth_lt hw hh hs _ c (a6 c hc)) hcm
  · obtain ⟨y1, y2⟩ := hle k c z
    exact ⟨y1, by omega⟩
/-- a table of ways that can't be made better is the search's -/
theorem dq_far_F {F : Nat → Nat} (hw : w ≤ 20) (hh : h ≤ 20) (hs : s < w * h) (h0 : F s = 0) (h9 : ∀ c, c < w * h → F c ≤ 9999) (hp : ∀ c, c < w * h → F c < 9999 → dq_pth g w h s (F c) c) (hr : ∀ c, c < w * h → F c < 9999 → ∀ b, b < 8 → ∀ c', pu_nbr g w h c b = some c' → F c' ≤ F c + 1) {c : Nat} (hc : c < w * h) : F c = if 0 ≤ (pu_far g w h s).1 c then ((pu_far g w h s).1 c).toNat else 9999 := by
  obtain ⟨d1, d2, d3⟩ := dq_far_D (g := g) hw hh hs
  generalize pu_far g w h s = D at *
  have hF : ∀ k c, dq_pth g w h s k c → k < 9000 → F c ≤ k := by
    intro k
    induction k with
    | zero =>
      intro c z _
      have z : c = s := z
      rw [z, h0]
      exact Nat.le_refl 0
    | succ k ih =>
      rintro c ⟨c', z1, b, hb, z2⟩ hk
      have y1 := ih c' z1 (by omega)
      have y2 := hr c' (dq_pth_lt hw hh hs k c' z1) (by omega) b hb c z2
      omega
  by_cases hD : 0 ≤ D.1 c
  · rw [if_pos hD]
    obtain ⟨e1, e2⟩ := d2 c hD
    have y1 := hF _ c e1 (by omega)
    have y2 := d3 _ c (hp c hc (by omega))
    omega
  · rw [if_neg hD]
    have y0 := h9 c hc
    by_cases y1 : F c < 9999
    · exact absurd (d3 _ c (hp c hc y1)).1 hD
    · omega
end DQP
