/-! AN ISLAND OF THE LAW, told by a row. ι tells its parts' ids: 0 water, 1 dug, 2 marks, 3 bends, 4 clues, 5 now, 10 + k a bend, 20 + q a clue, 30 + q its starts, 40 + q its legs, 50 + 8 q + l a leg -/
def dq_If (Y : dw_S) (th : Nat) (a : Nat → Int32) (w h : Nat) : Prop := dw_i Y th 0 = Int32.ofNat w ∧ dw_i Y th 1 = Int32.ofNat h ∧ dw_i Y th 7 = a 4 ∧ dw_i Y th 8 = a 5 ∧ dw_i Y th 9 = a 6 ∧ (a 6 = 1 → dw_i Y th 10 = a 7)
def dq_Ir (Y : dw_S) (th : Nat) (ι : Nat → Nat) : Prop := dw_r Y th 2 = some (ι 0) ∧ dw_r Y th 3 = some (ι 1) ∧ dw_r Y th 4 = some (ι 2) ∧ dw_r Y th 5 = some (ι 3) ∧ dw_r Y th 6 = some (ι 4) ∧ dw_r Y th 12 = some (ι 5)
def dq_Im (Y : dw_S) (ι : Nat → Nat) (a : Nat → Int32) (m : Nat) : Prop := (dq_A1 Y (ι 0) 21 m ∧ ∀ c, c < m → dw_i Y (ι 0) c = a (8 + c)) ∧ (dq_A1 Y (ι 1) 21 m ∧ ∀ c, c < m → dw_i Y (ι 1) c = a (408 + c)) ∧ dq_A1 Y (ι 2) 20 8 ∧ ∀ k, k < 8 → dw_i Y (ι 2) k = a (808 + k)
def dq_Ib (Y : dw_S) (ι : Nat → Nat) (a : Nat → Int32) (nb : Nat) : Prop := dq_A1 Y (ι 3) 26 nb ∧ ∀ k, k < nb → dw_r Y (ι 3) k = some (ι (10 + k)) ∧ dq_A1 Y (ι (10 + k)) 20 5 ∧ ∀ j, j < 5 → dw_i Y (ι (10 + k)) j = a (816 + 5 * k + j)
def dq_Ig (Y : dw_S) (ι : Nat → Nat) (a : Nat → Int32) (q l : Nat) : Prop := dw_is Y (ι (50 + 8 * q + l)) 14 ∧ ∀ j, j < 4 → dw_i Y (ι (50 + 8 * q + l)) j = a (pu_lg q l + j)
def dq_Iq (Y : dw_S) (ι : Nat → Nat) (a : Nat → Int32) (q : Nat) : Prop := (dw_r Y (ι 4) q = some (ι (20 + q)) ∧ dw_is Y (ι (20 + q)) 12 ∧ dw_i Y (ι (20 + q)) 2 = a (pu_cl q) ∧ dw_r Y (ι (20 + q)) 0 = some (ι (30 + q)) ∧ dw_r Y (ι (20 + q)) 1 = some (ι (40 + q))) ∧ (dq_A1 Y (ι (30 + q)) 20 (pu_ns a q) ∧ ∀ k, k < pu_ns a q → dw_i Y (ι (30 + q)) k = a (pu_cl q + 3 + k)) ∧ dq_A1 Y (ι (40 + q)) 23 (pu_nl a q) ∧ ∀ l, l < pu_nl a q → dw_r Y (ι (40 + q)) l = some (ι (50 + 8 * q + l)) ∧ dq_Ig Y ι a q l
def dq_Id (ι : Nat → Nat) (nb nc : Nat) : Prop := ι 0 ≠ ι 1 ∧ (∀ k, k < nb → ι 2 ≠ ι (10 + k) ∧ (∀ q, q < nc → ι (30 + q) ≠ ι (10 + k)) ∧ ∀ i, i < nb → i ≠ k → ι (10 + i) ≠ ι (10 + k)) ∧ ∀ q, q < nc → ∀ p, p < nc → p ≠ q → ι (20 + p) ≠ ι (20 + q)
def dq_In (Y : dw_S) (ι : Nat → Nat) (nb nc : Nat) : Prop := dq_A1 Y (ι 5) 20 9 ∧ ι 5 ≠ ι 2 ∧ (∀ k, k < nb → ι 5 ≠ ι (10 + k)) ∧ (∀ q, q < nc → ι 5 ≠ ι (30 + q)) ∧ dq_Id ι nb nc
def dq_I (Y : dw_S) (th : Nat) (ι : Nat → Nat) (a : Nat → Int32) (w h nb nc : Nat) : Prop := dw_is Y th 13 ∧ dq_If Y th a w h ∧ dq_Ir Y th ι ∧ dq_Im Y ι a (w * h) ∧ dq_Ib Y ι a nb ∧ (dq_A1 Y (ι 4) 24 nc ∧ ∀ q, q < nc → dq_Iq Y ι a q) ∧ dq_In Y ι nb nc
/-- small enough for the room -/
def dq_sm (a : Nat → Int32) (w h nc : Nat) : Prop := w * h ≤ 30 ∧ nc ≤ 3 ∧ ∀ q, q < nc → pu_ns a q ≤ 2 ∧ pu_nl a q ≤ 3 ∧ ∀ l, l < pu_nl a q → pu_kind a q l = 0 → pu_give a q l ≤ 2
/-- the ids that count, the row now left out -/
def dq_has (ι : Nat → Nat) (a : Nat → Int32) (nb nc k : Nat) : Prop := k = ι 0 ∨ k = ι 1 ∨ k = ι 2 ∨ k = ι 3 ∨ k = ι 4 ∨ (∃ i, i < nb ∧ k = ι (10 + i)) ∨ ∃ q, q < nc ∧ (k = ι (20 + q) ∨ k = ι (30 + q) ∨ k = ι (40 + q) ∨ ∃ l, l < pu_nl a q ∧ k = ι (50 + 8 * q + l))
section DQI
variable {Y Y' : dw_S} {th : Nat} {ι : Nat → Nat} {a : Nat → Int32} {w h nb nc n c b : Nat}
theorem dq_I_fr {Si Sr : Nat → Nat → Prop} (F : dq_fr Si Sr Y Y') (I : dq_I Y th ι a w h nb nc) (h1 : ∀ j, ¬ Si th j) (h2 : ∀ j, j ≠ 11 → ¬ Sr th j) (h3 : ∀ k j, dq_has ι a nb nc k → ¬ Si k j ∧ ¬ Sr k j) : dq_I Y' th ι a w h nb nc := by
  obtain ⟨Is, ⟨f0, f1, f2, f3, f4, f5⟩, ⟨r0, r1, r2, r3, r4, r5⟩, ⟨⟨m1, m2⟩, ⟨m3, m4⟩, m5, m6⟩, ⟨b1, b2⟩, ⟨c1, c2⟩, n1, n2⟩ := I
  have F4 := F.2.2.2.1
  have F5 := F.2.2.2.2
  have ei : ∀ j, dw_i Y' th j = dw_i Y th j := fun j => F4 th j Is.1 (h1 j)
  have er : ∀ j, j ≠ 11 → dw_r Y' th j = dw_r Y th j := fun j hj => F5 th j Is.1 (h2 j hj)
  have gi : ∀ k j, dq_has ι a nb nc k → k < dw_n Y → dw_i Y' k j = dw_i Y k j := fun k j z hk => F4 k j hk (h3 k j z).1
  have gr : ∀ k j, dq_has ι a nb nc k → k < dw_n Y → dw_r Y' k j = dw_r Y k j := fun k j z hk => F5 k j hk (h3 k j z).2
  refine ⟨dq_is_fr F Is, ⟨?_, ?_, ?_, ?_, ?_, fun z => ?_⟩, ⟨?_, ?_, ?_, ?_, ?_, ?_⟩, ⟨⟨dq_A1_fr F m1, fun c hc => ?_⟩, ⟨dq_A1_fr F m3, fun c hc => ?_⟩, dq_A1_fr F m5, fun k hk => ?_⟩, ⟨dq_A1_fr F b1, fun k hk => ?_⟩, ⟨dq_A1_fr F c1, fun q hq => ?_⟩, dq_A1_fr F n1, n2⟩
  · rw [ei]; exact f0
  · rw [ei]; exact f1
  · rw [ei]; exact f2
  · rw [ei]; exact f3
  · rw [ei]; exact f4
  · rw [ei]; exact f5 z
  · rw [er _ (by decide)]; exact r0
  · rw [er _ (by decide)]; exact r1
  · rw [er _ (by decide)]; exact r2
  · rw [er _ (by decide)]; exact r3
  · rw [er _ (by decide)]; exact r4
  · rw [er _ (by decide)]; exact r5
  · rw [gi _ _ (Or.inl rfl) m1.1.1]; exact m2 c hc
  · rw [gi _ _ (Or.inr (Or.inl rfl)) m3.1.1]; exact m4 c hc
  · rw [gi _ _ (Or.inr (Or.inr (Or.inl rfl))) m5.1.1]; exact m6 k hk
  · obtain ⟨d1, d2, d3⟩ := b2 k hk
    refine ⟨?_, dq_A1_fr F d2, fun j hj => ?_⟩
    · rw [gr _ _ (Or.inr (Or.inr (Or.inr (Or.inl rfl)))) b1.1.1]; exact d1
    · rw [gi _ _ (Or.inr (Or.inr (Or.inr (Or.inr (Or.inr (Or.inl ⟨k, hk, rfl⟩)))))) d2.1.1]; exact d3 j hj
  · obtain ⟨⟨d1, d2, d3, d4, d5⟩, ⟨d6, d7⟩, d8, d9⟩ := c2 q hq
    have hq' : ∀ k, (k = ι (20 + q) ∨ k = ι (30 + q) ∨ k = ι (40 + q) ∨ ∃ l, l < pu_nl a q ∧ k = ι (50 + 8 * q + l)) → dq_has ι a nb nc k := fun k z => Or.inr (Or.inr (Or.inr (Or.inr (Or.inr (Or.inr ⟨q, hq, z⟩)))))
    refine ⟨⟨?_, dq_is_fr F d2, ?_, ?_, ?_⟩, ⟨dq_A1_fr F d6, fun k hk => ?_⟩, dq_A1_fr F d8, fun l hl => ?_⟩
    · rw [gr _ _ (Or.inr (Or.inr (Or.inr (Or.inr (Or.inl rfl))))) c1.1.1]; exact d1
    · rw [gi _ _ (hq' _ (Or.inl rfl)) d2.1]; exact d3
    · rw [gr _ _ (hq' _ (Or.inl rfl)) d2.1]; exact d4
    · rw [gr _ _ (hq' _ (Or.inl rfl)) d2.1]; exact d5
    · rw [gi _ _ (hq' _ (Or.inr (Or.inl rfl))) d6.1.1]; exact d7 k hk
    · obtain ⟨e1, e2, e3⟩ := d9 l hl
      refine ⟨?_, dq_is_fr F e2, fun j hj => ?_⟩
      · rw [gr _ _ (hq' _ (Or.inr (Or.inr (Or.inl rfl)))) d8.1.1]; exact e1
      · rw [gi _ _ (hq' _ (Or.inr (Or.inr (Or.inr ⟨l, hl, rfl⟩)))) e2.1]; exact e3 j hj
/-- the island is used: its row now, its field found -/
def dq_use (th : Nat) (ι : Nat → Nat) (Y Y' : dw_S) : Prop := dq_fr (fun k _ => k = ι 5) (fun k j => k = th ∧ j = 11) Y Y'
theorem dq_is_ne {k k' kd kd' : Nat} (h1 : dw_is Y k kd) (h2 : dw_is Y k' kd') (hd : kd ≠ kd') : k ≠ k' := fun e => hd (by rw [← h1.2.2, ← h2.2.2, e])
theorem dq_I_use (F : dq_use th ι Y Y') (I : dq_I Y th ι a w h nb nc) : dq_I Y' th ι a w h nb nc := by
  obtain ⟨Is, If, Ir, Im, Ib, Ic, In⟩ := id I
  obtain ⟨⟨m1, -⟩, ⟨m3, -⟩, m5, -⟩ := Im
  obtain ⟨b1, b2⟩ := Ib
  obtain ⟨c1, c2⟩ := Ic
  obtain ⟨n1, n2, n3, n4, -⟩ := In
  have key : ∀ k kd, dw_is Y k kd → kd ≠ 13 → k ≠ th := fun k kd hk hd => dq_is_ne hk Is hd
  have key2 : ∀ k kd, dw_is Y k kd → kd ≠ 20 → k ≠ ι 5 := fun k kd hk hd => dq_is_ne hk n1.1 hd
  refine dq_I_fr F I (fun j z => ?_) (fun j hj z => hj z.2) (fun k j z => ?_)
  · exact key2 th 13 Is (by decide) z
  · have dn : ∀ kd, dw_is Y k kd → kd ≠ 13 → k ≠ ι 5 → ¬ k = ι 5 ∧ ¬ (k = th ∧ j = 11) := fun kd h1 h2 h3 => ⟨h3, fun z => key k kd h1 h2 z.1⟩
    rcases z with z | z | z | z | z | ⟨i, hi, z⟩ | ⟨q, hq, z | z | z | ⟨l, hl, z⟩⟩
    · subst z; exact dn 21 m1.1 (by decide) (key2 _ 21 m1.1 (by decide))
    · subst z; exact dn 21 m3.1 (by decide) (key2 _ 21 m3.1 (by decide))
    · subst z; exact dn 20 m5.1 (by decide) (fun e => n2 e.symm)
    · subst z; exact dn 26 b1.1 (by decide) (key2 _ 26 b1.1 (by decide))
    · subst z; exact dn 24 c1.1 (by decide) (key2 _ 24 c1.1 (by decide))
    · subst z; exact dn 20 (b2 i hi).2.1.1 (by decide) (fun e => n3 i hi e.symm)
    · subst z; exact dn 12 (c2 q hq).1.2.1 (by decide) (key2 _ 12 (c2 q hq).1.2.1 (by decide))
    · subst z; exact dn 20 (c2 q hq).2.1.1.1 (by decide) (fun e => n4 q hq e.symm)
    · subst z; exact dn 23 (c2 q hq).2.2.1.1 (by decide) (key2 _ 23 (c2 q hq).2.2.1.1 (by decide))
    · subst z; exact dn 14 ((c2 q hq).2.2.2 l hl).2.1 (by decide) (key2 _ 14 ((c2 q hq).2.2.2 l hl).2.1 (by decide))
theorem dq_east {j2 : Int32 → Prop} (hb : b < 8) : (tw_jn (fun (a18 : Unit) =>
j2 (1 : Int32)) (fun (j19 : (Unit) → Prop) =>
if (Int32.ofNat b) = (1 : Int32) then (j19 ())
else (if (Int32.ofNat b) = (2 : Int32) then (j19 ())
else (if ¬ (Int32.ofNat b) = (3 : Int32) then (if (Int32.ofNat b) ≤ (4 : Int32) then (j2 (0 : Int32))
else (j2 (-1 : Int32)))
else (j19 ()))))) = j2 (Int32.ofInt ((pu_ex b : Int) - 1)) := by
  match b, hb with
  | 0, _ => rfl
  | 1, _ => rfl
  | 2, _ => rfl
  | 3, _ => rfl
  | 4, _ => rfl
  | 5, _ => rfl
  | 6, _ => rfl
  | 7, _ => rfl
theorem dq_south {j5 : Int32 → Prop} (hb : b < 8) : (tw_jn (fun (a14 : Unit) =>
j5 (1 : Int32)) (fun (j15 : (Unit) → Prop) =>
if (Int32.ofNat b) = (3 : Int32) then (j15 ())
else (if (Int32.ofNat b) = (4 : Int32) then (j15 ())
else (if ¬ (Int32.ofNat b) = (5 : Int32) then (tw_jn (fun (a16 : Unit) =>
j5 (0 : Int32)) (fun (j17 : (Unit) → Prop) =>
if (Int32.ofNat b) = (2 : Int32) then (j17 ())
else (if ¬ (Int32.ofNat b) = (6 : Int32) then (j5 (-1 : Int32))
else (j17 ()))))
else (j15 ()))))) = j5 (Int32.ofInt ((pu_sy b : Int) - 1)) := by
  match b, hb with
  | 0, _ => rfl
  | 1, _ => rfl
  | 2, _ => rfl
  | 3, _ => rfl
  | 4, _ => rfl
  | 5, _ => rfl
  | 6, _ => rfl
  | 7, _ => rfl
theorem dq_nbr {Q : Int32 → Prop} (I : dq_I Y th ι a w h nb nc) (m : pu_wfm a w h) (hc : c < w * h) (hb : b < 8) (hQ : Q (pu_eR (pu_nbr (pu_land a) w h c b))) : dw_P_X13_neighbour th (Int32.ofNat c) (Int32.ofNat b) Y Q := by
  have hle := pu_wfm_le m
  obtain ⟨-, -, w1, w2, h1, h2⟩ := m
  obtain ⟨-, c2, c3, -⟩ := pu_cell hc
  have hx := pu_exy (b := b)
  obtain ⟨Is, ⟨f0, f1, -⟩, ⟨r2, -⟩, ⟨⟨A0, A1⟩, -⟩, -⟩ := I
  dsimp only [dw_P_X13_neighbour, pw_lt]
  refine dq_jn (fun v => v = Int32.ofInt ((pu_ex b : Int) - 1)) (fun v hv => ?_) (fun j hj => Eq.mpr (dq_east hb) (hj _ rfl))
  subst hv
  refine dq_jn (fun v => v = Int32.ofInt ((pu_sy b : Int) - 1)) (fun v hv => ?_) (fun j hj => Eq.mpr (dq_south hb) (hj _ rfl))
  subst hv
  rw [f0, f1, pu_rem (by omega) (by omega), pu_div (by omega) (by omega), pu_addI, pu_addI]
  have hw0 := pu_ne0 w1 (show w < 2147483648 by omega)
  refine dq_ck Is (dq_ck hw0 (dq_ck Is (dq_ck hw0 ?_)))
  unfold pu_nbr pu_gnb at hQ
  generalize hq : c / w = q at *
  generalize hr : c % w = r at *
  generalize hex : pu_ex b = ex at *
  generalize hsy : pu_sy b = sy at *
  by_cases hX : (1 ≤ r + ex ∧ r + ex ≤ w) ∧ 1 ≤ q + sy ∧ q + sy ≤ h
  · rw [if_pos ⟨hX.1.1, hX.1.2, hX.2.1, hX.2.2⟩] at hQ
    obtain ⟨x, hx0⟩ : ∃ x, r + ex = x + 1 := ⟨r + ex - 1, by omega⟩
    obtain ⟨y, hy0⟩ : ∃ y, q + sy = y + 1 := ⟨q + sy - 1, by omega⟩
    have e5 : q + sy - 1 = y := by omega
    have e6 : r + ex - 1 = x := by omega
    have e3 : (r : Int) + ((ex : Int) - 1) = (x : Int) := by omega
    have e4 : (q : Int) + ((sy : Int) - 1) = (y : Int) := by omega
    rw [e5, e6] at hQ
    dsimp only [] at hQ
    rw [dq_oI e3, dq_oI e4, pu_mul, pu_add, pu_n (show y * w + x < 2147483648 by have := pu_cell_lt (w := w) (h := h) (q := y) (r := x) (by omega) (by omega); omega)]
    have hlt := pu_cell_lt (w := w) (h := h) (q := y) (r := x) (by omega) (by omega)
    refine dq_jn (fun _ => False) (fun _ z => z.elim) (fun j hj => ?_)
    refine dq_iff (pu_nn (by omega)) (dq_iff (pu_nn (by omega)) (dq_ck Is (dq_iff (by rw [pu_le (by omega) (by omega)]; omega) (dq_ck Is (dq_ift (by rw [pu_ltn (by omega) (by omega)]; omega) (dq_ck Is (dq_nn r2 (dq_ck Is (dq_ck (dq_A1_ok A0 hlt (by omega)) ?_)))))))))
    rw [A1 _ hlt]
    refine dq_jn (fun v => v = pu_eR (if pu_land a (y * w + x) = true then some (y * w + x) else none)) (fun v hv => by rw [hv]; exact hQ) (fun j hj => ?_)
    unfold pu_land at hj
    refine dq_if (fun hl => dq_ck Is (hj _ ?_)) (fun hl => hj _ ?_)
    · rw [decide_eq_true hl, if_pos rfl]; rfl
    · rw [decide_eq_false hl, if_neg (by decide)]; rfl
  · rw [if_neg (fun z => hX ⟨⟨z.1, z.2.1⟩, z.2.2⟩)] at hQ
    refine dq_jn (fun _ => True) (fun _ _ => hQ) (fun j hj => ?_)
    refine dq_if (fun _ => hj () trivial) (fun g1 => dq_if (fun _ => hj () trivial) (fun g2 => dq_ck Is (dq_if (fun _ => hj () trivial) (fun g3 => dq_ck Is (dq_if (fun g4 => ?_) (fun _ => hj () trivial))))))
    rw [dq_lt0 (by omega) (by omega)] at g1 g2
    rw [dq_leI (by omega) (by omega) (by omega)] at g3
    rw [dq_ltI (by omega) (by omega) (by omega)] at g4
    exact absurd (show (1 ≤ r + ex ∧ r + ex ≤ w) ∧ 1 ≤ q + sy ∧ q + sy ≤ h by omega) hX
theorem dq_step {Q : Int32 → Prop} (I : dq_I Y th ι a w h nb nc) (m : pu_wfm a w h) (hbn : pu_wfb a w h nb) (hc : c < w * h) (hb : b < 8) (hn : 100 < n) (hQ : Q (pu_eR (pu_step a w h nb c b))) : dw_P_X13_step n th (Int32.ofNat c) (Int32.ofNat b) Y Q := by
  have hle := pu_wfm_le m
  have m0 := m
  obtain ⟨-, -, w1, w2, h1, h2⟩ := m
  obtain ⟨hN, hn8, hbk⟩ := id hbn
  obtain ⟨-, c2, c3, -⟩ := pu_cell hc
  obtain ⟨Is, ⟨f0, f1, -⟩, ⟨-, -, -, r5, -⟩, -, ⟨B0, B1⟩, -⟩ := id I
  have hw0 := pu_ne0 w1 (show w < 2147483648 by omega)
  have hlast := pu_tw_rng (c := c) hbn nb (Nat.le_refl _)
  dsimp only [dw_P_X13_step, pw_lt]
  refine dq_ck Is (dq_nn r5 (dq_ck B0.1 ?_))
  rw [B0.2, f0, pu_rem (by omega) (by omega), pu_div (by omega) (by omega)]
  refine dq_for nb (fun i v => v = (Int32.ofInt (pu_tw a w c i), Int32.ofNat i)) (fun k i v hi hv hk => ?_) (fun k v hv => ?_) (by omega) rfl
  · subst hv
    dsimp only []
    obtain ⟨d1, d2, d3⟩ := B1 i hi
    obtain ⟨l, t, r, o, e0, e1, e2, e3, l1, l2, l3, l4, -, -⟩ := hbk i hi
    have g0 := d3 0 (by omega)
    have g1 := d3 1 (by omega)
    have g2 := d3 2 (by omega)
    have g3 := d3 3 (by omega)
    have g4 := d3 4 (by omega)
    rw [Nat.add_zero] at g0
    have a5 : Int32.ofNat i + (1 : Int32) = Int32.ofNat (i + 1) := pu_add _ 1
    have ok : ∀ (x : Int32) (m : Nat), x = Int32.ofNat m → m < 5 → dw_is Y (ι (10 + i)) 20 ∧ tw_ok x (dw_l Y (ι (10 + i))) = true := fun x m e hm => by rw [e]; exact dq_A1_ok d2 hm (by decide)
    refine dq_iff (by rw [pu_le (by omega) (by omega)]; omega) (dq_ck (dq_A1_okn B0 hi (by omega)) (dq_nn (by rw [pu_n (by omega)]; exact d1) (dq_ck Is (dq_ck hw0 (dq_ck (ok _ 0 rfl (by decide)) ?_)))))
    rw [a5, pu_c0, pu_c1, pu_c2, pu_c3, show Int32.toNatClampNeg (4 : Int32) = 4 from rfl, g0, g1, g2, g3, g4, e0, e1, e2, e3]
    have hS : pu_tw a w c (i + 1) = pu_tw a w c i + if pu_inb a w i c then (a (816 + 5 * i + 4)).toInt else 0 := rfl
    unfold pu_inb at hS
    rw [e0, e1, e2, e3, pu_toInt (show l < 2147483648 by omega), pu_toInt (show t < 2147483648 by omega), pu_toInt (show r < 2147483648 by omega), pu_toInt (show o < 2147483648 by omega)] at hS
    refine dq_jn (fun v => v = Int32.ofInt (pu_tw a w c (i + 1))) (fun v hv => hk _ (by rw [hv])) (fun j hj => ?_)
    have no : ¬ ((l : Int) ≤ ((c % w : Nat) : Int) ∧ ((c % w : Nat) : Int) ≤ (r : Int)) ∨ ¬ ((t : Int) ≤ ((c / w : Nat) : Int) ∧ ((c / w : Nat) : Int) ≤ (o : Int)) → pu_tw a w c (i + 1) = pu_tw a w c i := by
      intro z
      rw [hS]
      rcases z with z | z
      · rw [decide_eq_false z, Bool.false_and, if_neg (by decide), Int.add_zero]
      · rw [decide_eq_false z, Bool.and_false, if_neg (by decide), Int.add_zero]
    refine dq_if (fun z => hj _ (congrArg Int32.ofInt (no (Or.inl ?_)).symm)) (fun z1 => dq_ck Is (dq_ck hw0 (dq_ck (ok _ 2 rfl (by decide)) (dq_if (fun z => hj _ (congrArg Int32.ofInt (no (Or.inl ?_)).symm)) (fun z2 => dq_ck Is (dq_ck hw0 (dq_ck (ok _ 1 rfl (by decide)) (dq_if (fun z => hj _ (congrArg Int32.ofInt (no (Or.inr ?_)).symm)) (fun z3 => dq_ck Is (dq_ck hw0 (dq_ck (ok _ 3 rfl (by decide)) (dq_if (fun z => hj _ (congrArg Int32.ofInt (no (Or.inr ?_)).symm)) (fun z4 => dq_ck (ok _ 4 rfl (by decide)) (hj _ ?_))))))))))))))
    · rw [pu_ltn (by omega) (by omega)] at z; omega
    · rw [pu_ltn (by omega) (by omega)] at z; omega
    · rw [pu_ltn (by omega) (by omega)] at z; omega
    · rw [pu_ltn (by omega) (by omega)] at z; omega
    · rw [pu_ltn (by omega) (by omega)] at z1 z2 z3 z4
      rw [pu_addx, hS, decide_eq_true (show (l : Int) ≤ ((c % w : Nat) : Int) ∧ ((c % w : Nat) : Int) ≤ (r : Int) by omega), decide_eq_true (show (t : Int) ≤ ((c / w : Nat) : Int) ∧ ((c / w : Nat) : Int) ≤ (o : Int) by omega), Bool.true_and, if_pos rfl]
  · subst hv
    dsimp only []
    refine dq_ift ((pu_le (by omega) (by omega)).mpr (Nat.le_refl _)) (dq_ck Is ?_)
    rw [pu_addI, dq_m8 (by omega) (by omega)]
    exact dq_nbr I m0 hc (by omega) hQ
theorem dq_eR_lt {o : Option Nat} (ho : ∀ d, o = some d → d < 2147483648) : pu_eR o < 0 ↔ o = none := by
  cases o with
  | none => exact ⟨fun _ => rfl, fun _ => (by decide : (-1 : Int32) < 0)⟩
  | some d => exact ⟨fun z => absurd z (pu_nn (ho d rfl)), fun z => by cases z⟩
theorem dq_eR_ge {o : Option Nat} (ho : ∀ d, o = some d → d < 2147483648) : (0 : Int32) ≤ pu_eR o ↔ o ≠ none := by
  exact ⟨fun z e => absurd ((dq_eR_lt ho).mpr e) (Int32.not_lt.mpr z), fun z => Int32.not_lt.mp (fun e => z ((dq_eR_lt ho).mp e))⟩
/-- what a row says as numbers -/
theorem dq_ofv {x : Int32} {i n' : Nat} (hi : pu_is a i n') (hx : x = a i) : x = Int32.ofNat (pu_v a i) := hx.trans hi.1
end DQI
