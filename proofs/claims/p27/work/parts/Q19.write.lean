/-! words and numbers written -/
section DQW2
variable {Y Y' : dw_S} {bf n w h nb nc cn : Nat} {a : Nat → Int32} {hist : Nat → Nat → Int32} {err : Int32} {T : List Nat}
/-- the bytes of a text constant of the law's -/
def dq_wd (x : Nat) : List Nat := (tw_byt.getD x []).map pu_N
theorem dq_wd_ok : ∀ x : Fin 33, (tw_byt.getD x.val []).length = tw_len.getD x.val 0 ∧ (dq_wd x.val).all (fun b => decide (b < 256)) = true ∧ (dq_wd x.val).length ≤ 6 ∧ ∀ i : Fin 6, (tw_byt.getD x.val []).getD i.val 0 = Int32.ofNat ((dq_wd x.val).getD i.val 0) := by decide +kernel
theorem dq_write {Q : dw_S → Prop} {x : Nat} (hx : x < 33) (X : dq_TX bf w h nb nc a cn hist err T Y) (hL : T.length < 560) (hn : 1000 < n) (hQ : ∀ Y', dq_wr bf Y Y' → dq_TX bf w h nb nc a cn hist err (T ++ dq_wd x) Y' → Q Y') : dw_P_L_write n bf x Y Q := by
  obtain ⟨w1, w2, w3, w4⟩ := dq_wd_ok ⟨x, hx⟩
  dsimp only [] at w1 w2 w3 w4
  have wl : (dq_wd x).length = tw_len.getD x 0 := by unfold dq_wd; rw [List.length_map]; exact w1
  unfold dw_P_L_write
  refine dq_lt ?_
  refine dq_for (dq_wd x).length (fun i v => v.1 = Int32.ofNat i ∧ dq_wr bf Y v.2 ∧ dq_TX bf w h nb nc a cn hist err (T ++ (dq_wd x).take i) v.2) (fun k i v hi hv hk => ?_) (fun k v hv => ?_) (by omega) ⟨rfl, dq_wr_refl, by rw [List.take_zero, List.append_nil]; exact X⟩
  all_goals
    obtain ⟨v1, Yv⟩ := v
    obtain ⟨hv1, Fv, Xv⟩ := hv
    dsimp only [] at hv1 Fv Xv
    dsimp only []
    subst hv1
    rw [← wl]
  · have hll : (T ++ (dq_wd x).take i).length = T.length + i := by rw [List.length_append, List.length_take]; omega
    have hc : (dq_wd x).getD i 0 < 256 := by
      have := List.all_eq_true.mp w2 ((dq_wd x)[i]) (List.getElem_mem hi)
      rw [List.getD_eq_getElem?_getD, List.getElem?_eq_getElem hi]
      exact of_decide_eq_true this
    have e4 := w4 ⟨i, by omega⟩
    dsimp only [] at e4
    rw [pu_n (by omega), e4]
    refine dq_iff (by rw [pu_le (by omega) (by omega)]; omega) (dq_bd (if_pos (pu_ok (by omega) hi)) ?_)
    refine dq_put (Y := Yv) Xv hc (by omega) hn (fun Y' F' X' => dq_lt (hk _ ⟨pu_add i 1, dq_wr_tr Fv F', ?_⟩))
    have et : (dq_wd x).take (i + 1) = (dq_wd x).take i ++ [(dq_wd x).getD i 0] := by
      rw [List.take_succ, List.getD_eq_getElem?_getD, List.getElem?_eq_getElem hi]; rfl
    rw [et, ← List.append_assoc]
    exact X'
  · rw [List.take_length] at Xv
    exact dq_ift ((pu_le (by omega) (by omega)).mpr (Nat.le_refl _)) (hQ _ Fv Xv)
/-- a digit -/
theorem dq_writeN {Q : dw_S → Prop} {d : Nat} (hd : d < 10) (X : dq_TX bf w h nb nc a cn hist err T Y) (hL : T.length < 560) (hn : 1000 < n) (hQ : ∀ Y', dq_wr bf Y Y' → dq_TX bf w h nb nc a cn hist err (T ++ [48 + d]) Y' → Q Y') : dw_P_L_writeNumber n bf (Int32.ofNat d) Y Q := by
  have e10 : (10 : Int32) = Int32.ofNat 10 := rfl
  have e1 : (1 : Int32) = Int32.ofNat 1 := rfl
  have e48 : (48 : Int32) = Int32.ofNat 48 := rfl
  unfold dw_P_L_writeNumber
  refine dq_lt ?_
  refine dq_for 0 (fun i v => v = (1 : Int32)) (fun k i v hi => absurd hi (Nat.not_lt_zero _)) (fun k v hv => ?_) (by omega) rfl
  subst hv
  refine dq_ift ?_ ?_
  · rw [e10, pu_div (by omega) (by omega), e1, pu_ltn (by omega) (by omega)]; omega
  refine dq_for 1 (fun i v => (i = 0 → v = ((1 : Int32), Y)) ∧ (i = 1 → v.1 = 0 ∧ dq_wr bf Y v.2 ∧ dq_TX bf w h nb nc a cn hist err (T ++ [48 + d]) v.2)) (fun k i v hi hv hk => ?_) (fun k v hv => ?_) (by omega) ⟨fun _ => rfl, fun z => absurd z (by decide)⟩
  · have hv := hv.1 (by omega)
    subst hv
    dsimp only []
    have ec : (48 : Int32) + ((Int32.ofNat d / (1 : Int32)) - (Int32.ofNat d / (1 : Int32)) / (10 : Int32) * (10 : Int32)) = Int32.ofNat (48 + d) := by
      rw [e1, pu_div (by omega) (by omega), Nat.div_one, e10, pu_rem (by omega) (by omega), e48, pu_add, Nat.mod_eq_of_lt hd]
    rw [ec]
    refine dq_iff (by decide) (dq_ck (by decide) (dq_put X (by omega) (by omega) hn (fun Y' F' X' => dq_lt (hk _ ⟨fun z => by omega, fun _ => ⟨by show (1 : Int32) / 10 = 0; decide, F', X'⟩⟩))))
  · obtain ⟨z1, z2, z3⟩ := hv.2 rfl
    exact dq_ift (by rw [z1]; decide) (hQ _ z2 z3)
/-- a word and numbers, each a digit behind a space -/
def dq_nums (D : Nat → Nat) : Nat → List Nat
  | 0 => []
  | k + 1 => dq_nums D k ++ [32, 48 + D k]
theorem dq_nums_len {D : Nat → Nat} : ∀ k, (dq_nums D k).length = 2 * k
  | 0 => rfl
  | k + 1 => by
    show (dq_nums D k ++ [32, 48 + D k]).length = _
    rw [List.length_append, dq_nums_len k]
    show 2 * k + 2 = _
    omega
theorem dq_numsL {Q : dw_S → Prop} {r m : Nat} {D : Nat → Nat} (hr : r ≠ bf) (A : dq_A1 Y r 20 m) (hD : ∀ i, i < m → dw_i Y r i = Int32.ofNat (D i) ∧ D i < 10) (hm : m ≤ 4) (X : dq_TX bf w h nb nc a cn hist err T Y) (hL : T.length < 540) (hn : 1000 < n) (hQ : ∀ Y', dq_wr bf Y Y' → dq_TX bf w h nb nc a cn hist err (T ++ dq_nums D m) Y' → Q Y') : pw_lp (fun (k25 : (Int32 × dw_S) → Prop) (a24 : Int32 × dw_S) =>
if Int32.ofNat m ≤ a24.1 then (Q a24.2)
else (pw_ck (dw_is a24.2 r 20 ∧ tw_ok a24.1 (dw_l a24.2 r) = true) (
pw_lt (dw_i a24.2 r (Int32.toNatClampNeg a24.1)) (fun (v26 : Int32) =>
dw_P_L_write n bf 21 a24.2 (fun (r27 : dw_S) =>
dw_P_L_writeNumber n bf v26 r27 (fun (r28 : dw_S) =>
pw_lt (a24.1 + (1 : Int32)) (fun (v29 : Int32) =>
k25 (v29, r28)))))))) n ((0 : Int32), Y) := by
  refine dq_for m (fun i v => v.1 = Int32.ofNat i ∧ dq_wr bf Y v.2 ∧ dq_TX bf w h nb nc a cn hist err (T ++ dq_nums D i) v.2) (fun k i v hi hv hk => ?_) (fun k v hv => ?_) (by omega) ⟨rfl, dq_wr_refl, by show dq_TX bf w h nb nc a cn hist err (T ++ []) Y; rw [List.append_nil]; exact X⟩
  all_goals
    obtain ⟨v1, Yv⟩ := v
    obtain ⟨hv1, Fv, Xv⟩ := hv
    dsimp only [] at hv1 Fv Xv
    dsimp only []
    subst hv1
  · have Av : dq_A1 Yv r 20 m := (dq_A1_fr Fv A : dq_A1 (dw_cs Yv (dw_s Y)) r 20 m)
    obtain ⟨h1, h2⟩ := hD i hi
    have ev : dw_i Yv r i = Int32.ofNat (D i) := (Fv.2.2.2.1 r i A.1.1 hr).trans h1
    have hll : (T ++ dq_nums D i).length = T.length + 2 * i := by rw [List.length_append, dq_nums_len]
    rw [pu_n (by omega)]
    refine dq_iff (by rw [pu_le (by omega) (by omega)]; omega) (dq_ck (dq_A1_ok Av hi (by omega)) (dq_lt ?_))
    rw [ev]
    refine dq_write (by decide) Xv (by omega) hn (fun Y1 F1 X1 => ?_)
    have hw21 : dq_wd 21 = [32] := by decide +kernel
    rw [hw21] at X1
    have hl1 : ((T ++ dq_nums D i) ++ [32]).length = T.length + 2 * i + 1 := by rw [List.length_append, hll]; rfl
    refine dq_writeN h2 X1 (by omega) hn (fun Y2 F2 X2 => dq_lt (hk _ ⟨pu_add i 1, dq_wr_tr Fv (dq_wr_tr F1 F2), ?_⟩))
    have et : T ++ dq_nums D (i + 1) = T ++ dq_nums D i ++ [32] ++ [48 + D i] := by
      show T ++ (dq_nums D i ++ [32, 48 + D i]) = _
      rw [List.append_assoc, List.append_assoc]
      rfl
    rw [et]
    exact X2
  · exact dq_ift ((pu_le (by omega) (by omega)).mpr (Nat.le_refl _)) (hQ _ Fv Xv)
theorem dq_writeAll {Q : dw_S → Prop} {x r m : Nat} {D : Nat → Nat} (hx : x < 33) (hr : r ≠ bf) (A : dq_A1 Y r 20 m) (hD : ∀ i, i < m → dw_i Y r i = Int32.ofNat (D i) ∧ D i < 10) (hm : m ≤ 4) (X : dq_TX bf w h nb nc a cn hist err T Y) (hL : T.length < 530) (hn : 1000 < n) (hQ : ∀ Y', dq_wr bf Y Y' → dq_TX bf w h nb nc a cn hist err (T ++ (dq_wd x ++ dq_nums D m)) Y' → Q Y') : dw_P_L_writeAll n bf x r Y Q := by
  have w3 := (dq_wd_ok ⟨x, hx⟩).2.2.1
  dsimp only [] at w3
  unfold dw_P_L_writeAll
  refine dq_write hx X (by omega) hn (fun Y1 F1 X1 => ?_)
  have A1 : dq_A1 Y1 r 20 m := (dq_A1_fr F1 A : dq_A1 (dw_cs Y1 (dw_s Y)) r 20 m)
  refine dq_ck A1.1 (dq_lt (dq_lt ?_))
  rw [A1.2]
  refine dq_numsL hr A1 (fun i hi => ?_) hm X1 (by rw [List.length_append]; omega) hn (fun Y2 F2 X2 => hQ Y2 (dq_wr_tr F1 F2) (by rw [← List.append_assoc]; exact X2))
  obtain ⟨h1, h2⟩ := hD i hi
  exact ⟨(F1.2.2.2.1 r i A.1.1 hr).trans h1, h2⟩
end DQW2
