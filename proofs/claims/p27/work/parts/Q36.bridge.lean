/-! the clue that is written is a clue that is read -/
section DQA1
variable {fst mk i q : Nat} {ls : List dq_Lg}
def dq_clms (fst mk i : Nat) : List Nat := if i = 1 then [] else [(fst + 1) % mk]
theorem dq_clT_eq (h1 : 1 ≤ i) (h2 : i ≤ 2) : (dq_wd 22 ++ dq_stX fst mk i) ++ dq_lgsT ls ++ [59] = dq_clT ((fst + 0) % mk) (dq_clms fst mk i) ls := by
  have hc : i = 1 ∨ i = 2 := by omega
  rcases hc with e | e <;> subst e
  · show (dq_wd 22 ++ ([] ++ ([] ++ [97 + (fst + 0) % mk]))) ++ dq_lgsT ls ++ [59] = dq_wd 22 ++ ([97 + (fst + 0) % mk] ++ ([] ++ (dq_lgsT ls ++ [59])))
    simp only [List.append_assoc, List.nil_append]
  · show (dq_wd 22 ++ (([] ++ ([] ++ [97 + (fst + 0) % mk])) ++ (dq_wd 23 ++ [97 + (fst + 1) % mk]))) ++ dq_lgsT ls ++ [59] = dq_wd 22 ++ ([97 + (fst + 0) % mk] ++ ((dq_wd 23 ++ [97 + (fst + 1) % mk] ++ []) ++ (dq_lgsT ls ++ [59])))
    simp only [List.append_assoc, List.nil_append, List.append_nil]
theorem dq_clms_f (h1 : 1 ≤ i) (h2 : i ≤ 2) : (dq_clms fst mk i).length = i - 1 ∧ ∀ k m, ((fst + 0) % mk :: dq_clms fst mk i)[k]? = some m → m = (fst + k) % mk := by
  have hc : i = 1 ∨ i = 2 := by omega
  rcases hc with e | e <;> subst e
  · refine ⟨rfl, fun k m z => ?_⟩
    cases k with
    | zero => cases z; rfl
    | succ k => have z : ([] : List Nat)[k]? = some m := z; rw [List.getElem?_nil] at z; cases z
  · refine ⟨rfl, fun k m z => ?_⟩
    cases k with
    | zero => cases z; rfl
    | succ k =>
      cases k with
      | zero => cases z; rfl
      | succ k => have z : ([] : List Nat)[k]? = some m := z; rw [List.getElem?_nil] at z; cases z
theorem dq_stOK_of {A : Nat → Int32} (h1 : 1 ≤ i) (h2 : i ≤ 2) (hmk : 1 ≤ mk ∧ mk ≤ 3) (him : i ≤ mk) (hf : fst < mk) (hns : pu_ns A q = 0) (hA : ∀ m, m < mk → A (808 + m) ≠ -1) : dq_stOK q ((fst + 0) % mk :: dq_clms fst mk i) A := by
  have m0 := Nat.mod_lt (fst + 0) (show mk > 0 by omega)
  have m1 := Nat.mod_lt (fst + 1) (show mk > 0 by omega)
  obtain ⟨f1, f2, f3⟩ := dq_aZs_f (q := q) [(fst + 0) % mk] A (by rw [hns]; show 0 + 1 ≤ 8; omega)
  have f4 := f2 0 _ rfl
  have g1 : pu_ns (dq_aZ A q ((fst + 0) % mk)) q = 1 := by rw [hns] at f1; exact f1
  have g2 : dq_aZ A q ((fst + 0) % mk) (pu_cl q + 3 + 0) = Int32.ofNat ((fst + 0) % mk) := by rw [hns] at f4; exact f4
  have g3 : dq_aZ A q ((fst + 0) % mk) (808 + (fst + 1) % mk) = A (808 + (fst + 1) % mk) := f3 _ (by unfold pu_cl; omega) (by unfold pu_cl; omega)
  have hc : i = 1 ∨ i = 2 := by omega
  rcases hc with e | e <;> subst e
  · exact ⟨by omega, hA _ m0, fun k hk => by rw [hns] at hk; exact absurd hk (Nat.not_lt_zero _), trivial⟩
  · refine ⟨by omega, hA _ m0, fun k hk => by rw [hns] at hk; exact absurd hk (Nat.not_lt_zero _), by omega, by rw [g3]; exact hA _ m1, fun k hk => ?_, trivial⟩
    rw [g1] at hk
    have e : k = 0 := by omega
    subst e
    unfold pu_v
    rw [g2, pu_n (by omega)]
    have hm : mk = 2 ∨ mk = 3 := by omega
    rcases hm with e | e <;> subst e <;> omega
theorem dq_lgOK_of : ∀ (ls : List dq_Lg) (A : Nat → Int32), mk ≤ 3 → (∀ l ∈ ls, dq_lgG mk l) → pu_nl A q + ls.length ≤ 8 → (∀ m, m < mk → A (808 + m) ≠ -1) → dq_lgOK q ls A
  | [], _, _, _, _, _ => trivial
  | x :: xs, A, hmk, hG, hl, hA => by
    have hll : (x :: xs).length = xs.length + 1 := rfl
    rw [hll] at hl
    obtain ⟨c1, c2, c3, c4, c5, c6, c7⟩ := hG x List.mem_cons_self
    refine ⟨⟨c1, c2, by omega, c4, fun z => by have := c5 z; omega, fun z => ⟨by have := c6 z; omega, hA _ (c6 z)⟩, c7, by omega⟩, dq_lgOK_of xs _ hmk (fun l z => hG l (List.mem_cons_of_mem _ z)) ?_ (fun m hm => ?_)⟩
    · have e1 : pu_nl (pu_aG A q x.1 x.2.1 x.2.2.1 x.2.2.2) q = pu_nl A q + 1 := by
        show (pu_aG A q x.1 x.2.1 x.2.2.1 x.2.2.2 (pu_cl q + 2)).toNatClampNeg = _
        rw [pu_aG_in.2.2.2.2, pu_n (by omega)]
      rw [e1]; omega
    · rw [pu_aG_out (by rw [dq_lgq]; unfold pu_cl; omega) (by unfold pu_cl; omega)]
      exact hA m hm
/-- the row of the clue -/
theorem dq_clA_f {A : Nat → Int32} (h1 : 1 ≤ i) (h2 : i ≤ 2) (hns : pu_ns A q = 0) (hnl : pu_nl A q = 0) (hls : ls.length ≤ 3) : dq_clA q ((fst + 0) % mk) (dq_clms fst mk i) ls A (pu_cl q) = 1 ∧ pu_ns (dq_clA q ((fst + 0) % mk) (dq_clms fst mk i) ls A) q = i ∧ (∀ k, k < i → dq_clA q ((fst + 0) % mk) (dq_clms fst mk i) ls A (pu_cl q + 3 + k) = Int32.ofNat ((fst + k) % mk)) ∧ pu_nl (dq_clA q ((fst + 0) % mk) (dq_clms fst mk i) ls A) q = ls.length ∧ (∀ k l, ls[k]? = some l → dq_clA q ((fst + 0) % mk) (dq_clms fst mk i) ls A (pu_lg q k) = Int32.ofNat l.1 ∧ dq_clA q ((fst + 0) % mk) (dq_clms fst mk i) ls A (pu_lg q k + 1) = Int32.ofNat l.2.1 ∧ dq_clA q ((fst + 0) % mk) (dq_clms fst mk i) ls A (pu_lg q k + 2) = Int32.ofNat l.2.2.1 ∧ dq_clA q ((fst + 0) % mk) (dq_clms fst mk i) ls A (pu_lg q k + 3) = Int32.ofNat l.2.2.2) ∧ (∀ j, j ≠ 3 → ¬ (pu_cl q ≤ j ∧ j < pu_cl q + 43) → dq_clA q ((fst + 0) % mk) (dq_clms fst mk i) ls A j = A j) ∧ dq_clA q ((fst + 0) % mk) (dq_clms fst mk i) ls A 3 = Int32.ofNat (q + 1) := by
  obtain ⟨w1, w2⟩ := dq_clms_f (fst := fst) (mk := mk) h1 h2
  have hlen : ((fst + 0) % mk :: dq_clms fst mk i).length = i := by
    show (dq_clms fst mk i).length + 1 = i
    omega
  obtain ⟨z1, z2, z3⟩ := dq_aZs_f (q := q) ((fst + 0) % mk :: dq_clms fst mk i) A (by rw [hlen]; omega)
  rw [hlen, hns] at z1 z3
  rw [hns] at z2
  have eA : dq_clA q ((fst + 0) % mk) (dq_clms fst mk i) ls A = pu_aC (dq_aGs q ls (dq_aZs q ((fst + 0) % mk :: dq_clms fst mk i) A)) q := rfl
  rw [eA]
  generalize dq_aZs q ((fst + 0) % mk :: dq_clms fst mk i) A = A1 at z1 z2 z3
  have hcl : 856 ≤ pu_cl q := by unfold pu_cl; omega
  have n1 : pu_nl A1 q = 0 := by
    rw [← hnl]
    unfold pu_nl pu_v
    rw [z3 _ (by omega) (by omega)]
  obtain ⟨y1, y2, y3⟩ := dq_aGs_f (q := q) ls A1 (by omega)
  rw [n1] at y1 y2 y3
  simp only [dq_lgq] at y2 y3 ⊢
  generalize dq_aGs q ls A1 = A2 at y1 y2 y3
  have cC : ∀ j, j ≠ 3 → j ≠ pu_cl q → pu_aC A2 q j = A2 j := fun j e1 e2 => by
    unfold pu_aC
    rw [pu_upd_n e1, pu_upd_n e2]
  refine ⟨?_, ?_, fun k hk => ?_, ?_, fun k l hk => ?_, fun j e1 e2 => ?_, pu_upd_s⟩
  · unfold pu_aC
    rw [pu_upd_n (by omega), pu_upd_s]
  · unfold pu_ns pu_v
    rw [cC _ (by omega) (by omega), y3 _ (by omega) (by omega)]
    have : pu_ns A1 q = i := by omega
    exact this
  · rw [cC _ (by omega) (by omega), y3 _ (by omega) (by omega)]
    have hk2 : k < ((fst + 0) % mk :: dq_clms fst mk i).length := by rw [hlen]; exact hk
    have := z2 k _ (List.getElem?_eq_getElem hk2)
    rw [w2 k _ (List.getElem?_eq_getElem hk2)] at this
    exact this
  · unfold pu_nl pu_v
    rw [cC _ (by omega) (by omega)]
    have : pu_nl A2 q = ls.length := by omega
    exact this
  · have := y2 k l hk
    rw [Nat.zero_add] at this
    rw [cC _ (by omega) (by omega), cC _ (by omega) (by omega), cC _ (by omega) (by omega), cC _ (by omega) (by omega)]
    exact this
  · rw [cC _ e1 (by omega), y3 _ (by omega) (by omega), z3 _ (by omega) (by omega)]
end DQA1
