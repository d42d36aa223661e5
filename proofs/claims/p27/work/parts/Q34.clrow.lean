/-! the row of a clue that was read -/
section DQQ
variable {q : Nat}
theorem dq_aZs_f : ∀ (ms : List Nat) (A : Nat → Int32), pu_ns A q + ms.length ≤ 8 → pu_ns (dq_aZs q ms A) q = pu_ns A q + ms.length ∧ (∀ k m, ms[k]? = some m → dq_aZs q ms A (pu_cl q + 3 + pu_ns A q + k) = Int32.ofNat m) ∧ ∀ j, j ≠ pu_cl q + 1 → ¬ (pu_cl q + 3 + pu_ns A q ≤ j ∧ j < pu_cl q + 3 + pu_ns A q + ms.length) → dq_aZs q ms A j = A j
  | [], A, _ => ⟨rfl, (fun k m z => by rw [List.getElem?_nil] at z; cases z), fun _ _ _ => rfl⟩
  | x :: xs, A, h => by
    have hl : (x :: xs).length = xs.length + 1 := rfl
    rw [hl] at h ⊢
    have e1 : pu_ns (dq_aZ A q x) q = pu_ns A q + 1 := by
      unfold dq_aZ pu_ns
      show (upd _ _ _ (pu_cl q + 1)).toNatClampNeg = _
      rw [pu_upd_s, pu_n (by unfold pu_ns at h; omega)]
    have e2 : dq_aZ A q x (pu_cl q + 3 + pu_ns A q) = Int32.ofNat x := by
      unfold dq_aZ
      rw [pu_upd_n (by omega), pu_upd_s]
    have e3 : ∀ j, j ≠ pu_cl q + 1 → j ≠ pu_cl q + 3 + pu_ns A q → dq_aZ A q x j = A j := fun j h1 h2 => by
      unfold dq_aZ
      rw [pu_upd_n h1, pu_upd_n h2]
    obtain ⟨i1, i2, i3⟩ := dq_aZs_f xs (dq_aZ A q x) (by rw [e1]; omega)
    rw [e1] at i1 i2 i3
    refine ⟨?_, fun k m z => ?_, fun j h1 h2 => ?_⟩
    · show pu_ns (dq_aZs q xs (dq_aZ A q x)) q = _
      rw [i1]; omega
    · show dq_aZs q xs (dq_aZ A q x) _ = _
      cases k with
      | zero =>
        have ex : x = m := by cases z; rfl
        rw [← ex, i3 _ (by omega) (by omega)]
        exact e2
      | succ k =>
        have z : xs[k]? = some m := z
        rw [show pu_cl q + 3 + pu_ns A q + (k + 1) = pu_cl q + 3 + (pu_ns A q + 1) + k by omega]
        exact i2 k m z
    · show dq_aZs q xs (dq_aZ A q x) j = _
      rw [i3 j h1 (by omega), e3 j h1 (by omega)]
theorem dq_lgq {q l : Nat} : pu_lg q l = pu_cl q + 11 + 4 * l := rfl
theorem dq_aGs_f : ∀ (ls : List dq_Lg) (A : Nat → Int32), pu_nl A q + ls.length ≤ 8 → pu_nl (dq_aGs q ls A) q = pu_nl A q + ls.length ∧ (∀ k l, ls[k]? = some l → dq_aGs q ls A (pu_lg q (pu_nl A q + k)) = Int32.ofNat l.1 ∧ dq_aGs q ls A (pu_lg q (pu_nl A q + k) + 1) = Int32.ofNat l.2.1 ∧ dq_aGs q ls A (pu_lg q (pu_nl A q + k) + 2) = Int32.ofNat l.2.2.1 ∧ dq_aGs q ls A (pu_lg q (pu_nl A q + k) + 3) = Int32.ofNat l.2.2.2) ∧ ∀ j, j ≠ pu_cl q + 2 → ¬ (pu_lg q (pu_nl A q) ≤ j ∧ j < pu_lg q (pu_nl A q + ls.length)) → dq_aGs q ls A j = A j
  | [], A, _ => ⟨rfl, (fun k m z => by rw [List.getElem?_nil] at z; cases z), fun _ _ _ => rfl⟩
  | x :: xs, A, h => by
    have hl : (x :: xs).length = xs.length + 1 := rfl
    rw [hl] at h ⊢
    have ei := pu_aG_in (A := A) (q := q) (κ := x.1) (m := x.2.1) (g := x.2.2.1) (d := x.2.2.2)
    have e1 : pu_nl (pu_aG A q x.1 x.2.1 x.2.2.1 x.2.2.2) q = pu_nl A q + 1 := by
      show (pu_aG A q x.1 x.2.1 x.2.2.1 x.2.2.2 (pu_cl q + 2)).toNatClampNeg = _
      rw [ei.2.2.2.2, pu_n (by omega)]
    obtain ⟨i1, i2, i3⟩ := dq_aGs_f xs (pu_aG A q x.1 x.2.1 x.2.2.1 x.2.2.2) (by rw [e1]; omega)
    rw [e1] at i1 i2 i3
    refine ⟨?_, fun k m z => ?_, fun j h1 h2 => ?_⟩
    · show pu_nl (dq_aGs q xs (pu_aG A q x.1 x.2.1 x.2.2.1 x.2.2.2)) q = _
      rw [i1]; omega
    · cases k with
      | zero =>
        have ex : x = m := by cases z; rfl
        subst ex
        have g : ∀ t, t < 4 → dq_aGs q (x :: xs) A (pu_lg q (pu_nl A q + 0) + t) = pu_aG A q x.1 x.2.1 x.2.2.1 x.2.2.2 (pu_lg q (pu_nl A q) + t) := fun t ht => by
          show dq_aGs q xs (pu_aG A q x.1 x.2.1 x.2.2.1 x.2.2.2) (pu_lg q (pu_nl A q) + t) = _
          rw [i3 _ (by rw [dq_lgq]; omega) (by rw [dq_lgq, dq_lgq]; omega)]
        exact ⟨(g 0 (by omega)).trans ei.1, (g 1 (by omega)).trans ei.2.1, (g 2 (by omega)).trans ei.2.2.1, (g 3 (by omega)).trans ei.2.2.2.1⟩
      | succ k =>
        have z : xs[k]? = some m := z
        rw [show pu_nl A q + (k + 1) = pu_nl A q + 1 + k by omega]
        exact i2 k m z
    · show dq_aGs q xs (pu_aG A q x.1 x.2.1 x.2.2.1 x.2.2.2) j = _
      rw [dq_lgq, dq_lgq] at h2
      rw [i3 j h1 (by rw [dq_lgq, dq_lgq]; omega), pu_aG_out (by rw [dq_lgq]; omega) h1]
end DQQ
