/-! the queue: what is in it can be reached, what is newly seen is in it -/
theorem pu_vis_qr {g : Nat → Bool} {w h c b s : Nat} {st : pu_St} (hb : b < 8) (hc : pu_rch g w h s c) (H : ∀ j, j < st.2.2 → pu_rch g w h s (st.2.1 j)) : ∀ j, j < (pu_vis g w h st c b).2.2 → pu_rch g w h s ((pu_vis g w h st c b).2.1 j) := by
  intro j hj
  unfold pu_vis at hj ⊢
  cases en : pu_nbr g w h c b with
  | none => rw [en] at hj; exact H j hj
  | some c' =>
    rw [en] at hj
    dsimp only [] at hj ⊢
    by_cases hn : st.1 c' < 0
    · rw [if_pos hn] at hj ⊢
      dsimp only [] at hj ⊢
      by_cases e : j = st.2.2
      · subst e
        rw [va_up_self]
        exact pu_rch_step hc hb en
      · rw [va_up_ne _ _ e]
        exact H j (by omega)
    · rw [if_neg hn] at hj ⊢
      exact H j hj
theorem pu_visN_qr {g : Nat → Bool} {w h c s : Nat} {st : pu_St} (hc : pu_rch g w h s c) (H : ∀ j, j < st.2.2 → pu_rch g w h s (st.2.1 j)) : ∀ b, b ≤ 8 → ∀ j, j < (pu_visN g w h st c b).2.2 → pu_rch g w h s ((pu_visN g w h st c b).2.1 j)
  | 0, _ => H
  | b + 1, hb => pu_vis_qr (by omega) hc (pu_visN_qr hc H b (by omega))
theorem pu_bf_qr {g : Nat → Bool} {w h s : Nat} {st : pu_St} (H : ∀ j, j < st.2.2 → pu_rch g w h s (st.2.1 j)) : ∀ i, ∀ j, j < (pu_bf g w h st i).2.2 → pu_rch g w h s ((pu_bf g w h st i).2.1 j)
  | 0 => H
  | i + 1 => by
    have ih := pu_bf_qr H i
    rw [pu_bf_S]
    split
    · rename_i hi
      exact pu_visN_qr (ih i hi) ih 8 (Nat.le_refl _)
    · exact ih
def pu_inq (d0 : Nat → Int) (st : pu_St) : Prop := ∀ x, 0 ≤ st.1 x → 0 ≤ d0 x ∨ ∃ j, j < st.2.2 ∧ st.2.1 j = x
theorem pu_vis_inq {g : Nat → Bool} {w h c b : Nat} {st : pu_St} {d0 : Nat → Int} (H : pu_inq d0 st) : pu_inq d0 (pu_vis g w h st c b) := by
  unfold pu_vis
  cases pu_nbr g w h c b with
  | none => exact H
  | some c' =>
    dsimp only []
    by_cases hn : st.1 c' < 0
    · rw [if_pos hn]
      intro x hx
      dsimp only [] at hx ⊢
      by_cases e : x = c'
      · subst e
        exact Or.inr ⟨st.2.2, Nat.lt_succ_self _, va_up_self ..⟩
      · rw [va_up_ne _ _ e] at hx
        rcases H x hx with z | ⟨j, z1, z2⟩
        · exact Or.inl z
        · exact Or.inr ⟨j, by omega, by rw [va_up_ne _ _ (by omega)]; exact z2⟩
    · rw [if_neg hn]
      exact H
theorem pu_visN_inq {g : Nat → Bool} {w h c : Nat} {st : pu_St} {d0 : Nat → Int} (H : pu_inq d0 st) : ∀ b, pu_inq d0 (pu_visN g w h st c b)
  | 0 => H
  | b + 1 => pu_vis_inq (pu_visN_inq H b)
theorem pu_bf_inq {g : Nat → Bool} {w h : Nat} {st : pu_St} {d0 : Nat → Int} (H : pu_inq d0 st) : ∀ i, pu_inq d0 (pu_bf g w h st i)
  | 0 => H
  | i + 1 => by
    have ih := pu_bf_inq (g := g) (w := w) (h := h) H i
    rw [pu_bf_S]
    split
    · exact pu_visN_inq ih 8
    · exact ih
/-- what was seen is closed -/
def pu_clo (g : Nat → Bool) (w h : Nat) (d : Nat → Int) : Prop := ∀ c c' b, 0 ≤ d c → b < 8 → pu_nbr g w h c b = some c' → 0 ≤ d c'
theorem pu_bf_seen {g : Nat → Bool} {w h s : Nat} {d0 : Nat → Int} (hw : w ≤ 20) (hh : h ≤ 20) (hs : s < w * h) (hneg : d0 s < 0) (hd : ∀ c, c < w * h → -1 ≤ d0 c ∧ d0 c ≤ 400) (hcl : pu_clo g w h d0) {B : pu_St} (hB : B = pu_bf g w h (pu_st0 d0 s) 400) : (∀ x, 0 ≤ B.1 x ↔ 0 ≤ d0 x ∨ pu_rch g w h s x) ∧ pu_clo g w h B.1 := by
  have H0 := pu_st0_BI (m := w * h) (s := s) (d0 := d0) hs hneg hd
  have hle := pu_BI_le (pu_bf_BI (g := g) hw hh H0 400)
  have hm := pu_m400 hw hh
  have hup : pu_up1 d0 (pu_bf g w h (pu_st0 d0 s) 400).1 := pu_up1_trans (pu_up1_up (Int.le_refl 0)) (pu_bf_up (g := g) hw hh H0 400)
  have hq0 : ∀ j, j < (pu_st0 d0 s).2.2 → pu_rch g w h s ((pu_st0 d0 s).2.1 j) := fun j _ => pu_rch_refl
  have hqr := pu_bf_qr (g := g) (w := w) (h := h) hq0 400
  have hi0 : pu_inq d0 (pu_st0 d0 s) := fun x hx => by
    by_cases e : x = s
    · exact Or.inr ⟨0, Nat.one_pos, e.symm⟩
    · have hx : 0 ≤ va_up d0 s 0 x := hx
      rw [va_up_ne _ _ e] at hx
      exact Or.inl hx
  have hin := pu_bf_inq (g := g) (w := w) (h := h) hi0 400
  have hal := pu_bf_all (g := g) hw hh H0 400
  have hs0 : 0 ≤ (pu_bf g w h (pu_st0 d0 s) 400).1 s := pu_bf_up (g := g) hw hh H0 400 s (by show 0 ≤ va_up d0 s 0 s; rw [va_up_self]; exact Int.le_refl 0)
  rw [← hB] at hle hup hqr hin hal hs0
  have hclo : pu_clo g w h B.1 := fun c c' b hc hb hn => by
    rcases hin c hc with z | ⟨j, z1, z2⟩
    · exact hup c' (hcl c c' b z hb hn)
    · exact hal j (by omega) z1 b hb c' (by rw [z2]; exact hn)
  refine ⟨fun x => ⟨fun hx => ?_, fun hx => ?_⟩, hclo⟩
  · rcases hin x hx with z | ⟨j, z1, z2⟩
    · exact Or.inl z
    · exact Or.inr (by rw [← z2]; exact hqr j z1)
  · rcases hx with z | z
    · exact hup x z
    · exact z (fun y => 0 ≤ B.1 y) hs0 (fun c c' b h1 h2 h3 => hclo c c' b h1 h2 h3)
