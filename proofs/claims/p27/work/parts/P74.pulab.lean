/-! parts: labels that go in step with a search -/
/-- the labels after a search that has come to the distances d; k: the search's label -/
def pu_lab (L d : Nat → Int) (k : Int) (c : Nat) : Int := if L c < 0 ∧ 0 ≤ d c then k else L c
/-- what was seen stays seen -/
def pu_up1 (d0 d : Nat → Int) : Prop := ∀ c, 0 ≤ d0 c → 0 ≤ d c
theorem pu_up1_trans {d0 d1 d2 : Nat → Int} (h : pu_up1 d0 d1) (h' : pu_up1 d1 d2) : pu_up1 d0 d2 := fun c hc => h' c (h c hc)
theorem pu_up1_up {d : Nat → Int} {c : Nat} {x : Int} (hx : 0 ≤ x) : pu_up1 d (va_up d c x) := fun y hy => by
  by_cases e : y = c
  · subst e; rw [va_up_self]; exact hx
  · rw [va_up_ne _ _ e]; exact hy
theorem pu_vis_up {g : Nat → Bool} {w h c b : Nat} {st : pu_St} (hc : 0 ≤ st.1 c) : pu_up1 st.1 (pu_vis g w h st c b).1 := by
  unfold pu_vis
  cases pu_nbr g w h c b with
  | none => exact fun _ z => z
  | some c' =>
    dsimp only []
    by_cases hn : st.1 c' < 0
    · rw [if_pos hn]
      exact pu_up1_up (by omega)
    · rw [if_neg hn]
      exact fun _ z => z
theorem pu_visN_up {g : Nat → Bool} {w h c : Nat} {st : pu_St} (hc : 0 ≤ st.1 c) : ∀ b, pu_up1 st.1 (pu_visN g w h st c b).1
  | 0 => fun _ z => z
  | b + 1 => pu_up1_trans (pu_visN_up hc b) (pu_vis_up (pu_visN_up hc b c hc))
theorem pu_bf_up {g : Nat → Bool} {w h c0 : Nat} {st : pu_St} (hw : w ≤ 20) (hh : h ≤ 20) (H : pu_BI (w * h) c0 st) : ∀ i, pu_up1 st.1 (pu_bf g w h st i).1
  | 0 => fun _ z => z
  | i + 1 => by
    have ih := pu_bf_up (g := g) hw hh H i
    have B := pu_bf_BI (g := g) hw hh H i
    show pu_up1 st.1 (if _ then _ else _ : pu_St).1
    split
    · rename_i hi
      obtain ⟨a1, a2, a3⟩ := B.2.1 i hi
      exact pu_up1_trans ih (pu_visN_up a2 8)
    · exact ih
theorem pu_lab_neg {L d0 d : Nat → Int} {k : Int} {c : Nat} (hL : L c < 0 ↔ d0 c < 0) (hu : pu_up1 d0 d) (hk : 0 ≤ k) : pu_lab L d k c < 0 ↔ d c < 0 := by
  have hu := hu c
  unfold pu_lab
  by_cases e : L c < 0 ∧ 0 ≤ d c
  · rw [if_pos e]; omega
  · rw [if_neg e]; omega
theorem pu_lab_up {L d0 d : Nat → Int} {k x : Int} {c' : Nat} (hL : L c' < 0 ↔ d0 c' < 0) (hu : pu_up1 d0 d) (hx : 0 ≤ x) (hd : d c' < 0) : ∀ y, pu_lab L (va_up d c' x) k y = va_up (pu_lab L d k) c' k y := fun y => by
  have hu := hu c'
  by_cases e : y = c'
  · subst e
    rw [va_up_self]
    unfold pu_lab
    rw [va_up_self, if_pos ⟨by omega, hx⟩]
  · rw [va_up_ne _ _ e]
    unfold pu_lab
    rw [va_up_ne _ _ e]
theorem pu_lab_self {L d : Nat → Int} {k : Int} {c : Nat} (h : L c < 0 ↔ d c < 0) : pu_lab L d k c = L c := by
  unfold pu_lab
  by_cases e : L c < 0 ∧ 0 ≤ d c
  · omega
  · rw [if_neg e]
/-- the labels when the cells below m have been looked at -/
def pu_labs (g : Nat → Bool) (w h : Nat) : Nat → Nat → Int
  | 0 => fun _ => -1
  | m + 1 => if g m = true ∧ (pu_parts g w h m).1 m < 0 then pu_lab (pu_labs g w h m) (pu_parts g w h (m + 1)).1 (pu_parts g w h m).2 else pu_labs g w h m
theorem pu_labs_S {g : Nat → Bool} {w h m : Nat} : pu_labs g w h (m + 1) = if g m = true ∧ (pu_parts g w h m).1 m < 0 then pu_lab (pu_labs g w h m) (pu_parts g w h (m + 1)).1 (pu_parts g w h m).2 else pu_labs g w h m := rfl
theorem pu_labs_0 {g : Nat → Bool} {w h : Nat} : pu_labs g w h 0 = fun _ => -1 := rfl
theorem pu_labs_neg {g : Nat → Bool} {w h : Nat} (hw : w ≤ 20) (hh : h ≤ 20) : ∀ m, m ≤ w * h → ∀ c, (pu_labs g w h m c < 0 ↔ (pu_parts g w h m).1 c < 0)
  | 0, _ => fun c => by rw [pu_labs_0, pu_parts_0]
  | m + 1, hm => fun c => by
    have ih := pu_labs_neg (g := g) hw hh m (by omega)
    obtain ⟨R1, R2⟩ := pu_parts_rng (g := g) hw hh m (by omega)
    rw [pu_labs_S]
    by_cases hc : g m = true ∧ (pu_parts g w h m).1 m < 0
    · rw [if_pos hc]
      have e : pu_parts g w h (m + 1) = ((pu_bf g w h (pu_st0 (pu_parts g w h m).1 m) 400).1, (pu_parts g w h m).2 + 1) := by rw [pu_parts_S]; exact if_pos hc
      have hu := pu_bf_up (g := g) hw hh (pu_st0_BI (m := w * h) (s := m) (d0 := (pu_parts g w h m).1) (by omega) hc.2 R1) 400
      rw [e]
      dsimp only []
      generalize pu_bf g w h (pu_st0 (pu_parts g w h m).1 m) 400 = B at hu ⊢
      refine pu_lab_neg (ih c) (pu_up1_trans ?_ hu) (by omega)
      exact pu_up1_up (Int.le_refl 0)
    · rw [if_neg hc]
      have e : pu_parts g w h (m + 1) = pu_parts g w h m := by rw [pu_parts_S]; exact if_neg hc
      rw [e]
      exact ih c
theorem pu_labs_rng {g : Nat → Bool} {w h : Nat} (hw : w ≤ 20) (hh : h ≤ 20) : ∀ m, m ≤ w * h → ∀ c, -1 ≤ pu_labs g w h m c ∧ pu_labs g w h m c < m + 1
  | 0, _ => fun c => by rw [pu_labs_0]; exact ⟨Int.le_refl (-1), (by decide : (-1 : Int) < 0 + 1)⟩
  | m + 1, hm => fun c => by
    have ih := pu_labs_rng (g := g) hw hh m (by omega) c
    obtain ⟨R1, R2⟩ := pu_parts_rng (g := g) hw hh m (by omega)
    rw [pu_labs_S]
    by_cases hc : g m = true ∧ (pu_parts g w h m).1 m < 0
    · rw [if_pos hc]
      unfold pu_lab
      split <;> omega
    · rw [if_neg hc]
      omega
