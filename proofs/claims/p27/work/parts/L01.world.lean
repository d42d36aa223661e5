/-! THE LAW'S OWN WORLD: the class's cells, and behind them the law's; what a cell is is told as it is made. -/
abbrev dw_S : Type := tw_Sg × Nat × (Nat → Nat × Nat) × tw_Sg × (Nat → Nat → Option Nat)
def dw_s (Y : dw_S) : tw_Sg := Y.1
def dw_n (Y : dw_S) : Nat := Y.2.1
def dw_k (Y : dw_S) (k : Nat) : Nat := (Y.2.2.1 k).1
def dw_l (Y : dw_S) (k : Nat) : Nat := (Y.2.2.1 k).2
def dw_i (Y : dw_S) (k i : Nat) : Int32 := Y.2.2.2.1 k i
def dw_r (Y : dw_S) (k i : Nat) : Option Nat := Y.2.2.2.2 k i
/-- an int is put, a row of ints, a reference; a cell is made; the class has been called -/
def dw_pi (Y : dw_S) (k i : Nat) (v : Int32) : dw_S := (Y.1, Y.2.1, Y.2.2.1, tw_up Y.2.2.2.1 k i v, Y.2.2.2.2)
def dw_pA (Y : dw_S) (k : Nat) (f : Nat → Int32) : dw_S := (Y.1, Y.2.1, Y.2.2.1, tw_upA Y.2.2.2.1 k f, Y.2.2.2.2)
def dw_pr (Y : dw_S) (k i : Nat) (v : Option Nat) : dw_S := (Y.1, Y.2.1, Y.2.2.1, Y.2.2.2.1, va_up Y.2.2.2.2 k (va_up (Y.2.2.2.2 k) i v))
def dw_nw (Y : dw_S) (a kd len : Nat) (f : Nat → Int32) (g : Nat → Option Nat) : dw_S := (Y.1, a + 1, va_up Y.2.2.1 a (kd, len), tw_upA Y.2.2.2.1 a f, va_up Y.2.2.2.2 a g)
def dw_cs (Y : dw_S) (σ : tw_Sg) : dw_S := (σ, Y.2)
def dw_v (b : Nat) (r : Option Nat) : Value := va_rf (Option.map (fun a => b + a) r)
def dw_E (b : Nat) (C : Nat → ClassId) (Y : dw_S) (k : Nat) : va_E := match dw_k Y k with
  | 12 => .inr (12, [dw_v b (dw_r Y k 0), dw_v b (dw_r Y k 1), .int (dw_i Y k 2)])
  | 13 => .inr (13, [.int (dw_i Y k 0), .int (dw_i Y k 1), dw_v b (dw_r Y k 2), dw_v b (dw_r Y k 3), dw_v b (dw_r Y k 4), dw_v b (dw_r Y k 5), dw_v b (dw_r Y k 6), .int (dw_i Y k 7), .int (dw_i Y k 8), .int (dw_i Y k 9), .int (dw_i Y k 10), dw_v b (dw_r Y k 11), dw_v b (dw_r Y k 12)])
  | 14 => .inr (14, [.int (dw_i Y k 0), .int (dw_i Y k 1), .int (dw_i Y k 2), .int (dw_i Y k 3)])
  | 15 => .inr (15, [.int (dw_i Y k 0)])
  | 16 => .inr (16, [dw_v b (dw_r Y k 0), .int (dw_i Y k 1), .int (dw_i Y k 2), .int (dw_i Y k 3)])
  | 17 => .inr (17, [dw_v b (dw_r Y k 0), .int (dw_i Y k 1), .int (dw_i Y k 2), .int (dw_i Y k 3)])
  | 20 => .inl (C 0, dw_l Y k, .inl (dw_i Y k))
  | 21 => .inl (C 1, dw_l Y k, .inl (dw_i Y k))
  | 22 => .inl (C 5, dw_l Y k, .inl (dw_i Y k))
  | 23 => .inl (C 6, dw_l Y k, .inr (.inr (.inr (.inr (fun j => Option.map (fun a => b + a) (dw_r Y k j))))))
  | 24 => .inl (C 7, dw_l Y k, .inr (.inr (.inr (.inr (fun j => Option.map (fun a => b + a) (dw_r Y k j))))))
  | 25 => .inl (C 8, dw_l Y k, .inr (.inr (.inr (.inr (fun j => Option.map (fun a => b + a) (dw_r Y k j))))))
  | 26 => .inl (C 4, dw_l Y k, .inr (.inr (.inr (.inr (fun j => Option.map (fun a => b + a) (dw_r Y k j))))))
  | _ => .inl (C 0, 0, .inl (fun _ => 0))
def dw_L (Y : dw_S) : List Nat := (List.range (dw_n Y)).filter (fun k => decide (442 ≤ k ∧ dw_k Y k ≠ 99))
def dw_wl (b : Nat) (C : Nat → ClassId) (Y : dw_S) : va_W := (dw_L Y).map (fun k => (b + k, dw_E b C Y k))
theorem dw_L_mem {Y : dw_S} {k : Nat} : k ∈ dw_L Y ↔ k < dw_n Y ∧ 442 ≤ k ∧ dw_k Y k ≠ 99 := by
  unfold dw_L
  rw [List.mem_filter, List.mem_range, decide_eq_true_iff]
theorem dw_L_nd (Y : dw_S) : (dw_L Y).Nodup := List.Pairwise.filter _ List.nodup_range
theorem dw_nd_inj {l : List Nat} (hn : l.Nodup) {i j k : Nat} (hi : l[i]? = some k) (hj : l[j]? = some k) : i = j := by
  have h1 := (List.getElem?_eq_some_iff.mp hi)
  have h2 := (List.getElem?_eq_some_iff.mp hj)
  obtain ⟨a1, a2⟩ := h1
  obtain ⟨b1, b2⟩ := h2
  have hp := List.pairwise_iff_getElem.mp hn
  rcases Nat.lt_trichotomy i j with h | h | h
  · exact absurd (a2.trans b2.symm) (hp i j a1 b1 h)
  · exact h
  · exact absurd (b2.trans a2.symm) (hp j i b1 a1 h)
theorem dw_wl_len {b : Nat} {C : Nat → ClassId} {Y : dw_S} {i : Nat} {q : Nat × va_E} (h : (dw_wl b C Y)[i]? = some q) : ∃ k, (dw_L Y)[i]? = some k ∧ q = (b + k, dw_E b C Y k) := by
  unfold dw_wl at h
  rw [List.getElem?_map] at h
  cases e : (dw_L Y)[i]? with
  | none => rw [e] at h; cases h
  | some k => rw [e] at h; exact ⟨k, rfl, (Option.some.inj h).symm⟩
theorem dw_wok {b : Nat} {C : Nat → ClassId} {Y : dw_S} : tw_Wok b (dw_wl b C Y) := by
  refine ⟨fun i j p q hp hq h => ?_, fun i q hq => ?_⟩
  · obtain ⟨k, h1, rfl⟩ := dw_wl_len hp
    obtain ⟨k', h2, rfl⟩ := dw_wl_len hq
    have h3 : b + k = b + k' := h
    have h4 : k = k' := by omega
    subst h4
    exact dw_nd_inj (dw_L_nd Y) h1 h2
  · obtain ⟨k, h1, rfl⟩ := dw_wl_len hq
    have := (dw_L_mem.mp (List.mem_of_getElem? h1)).2.1
    show b + 441 < b + k
    omega
/-- the whole of it -/
def dw_ws (b : Nat) (C : Nat → ClassId) (Y : dw_S) : va_W := tw_wl b (tw_E b C (dw_s Y)) 442 ++ dw_wl b C Y
def dw_W (b : Nat) (D : tw_G) (C : Nat → ClassId) (Y : dw_S) (H : Heap) : Prop := va_P D.1 vwCl (dw_ws b C Y) H ∧ b + dw_n Y ≤ H.size ∧ 442 ≤ dw_n Y ∧ ∀ k, dw_n Y ≤ k → dw_k Y k = 99
theorem dw_ws_D {b : Nat} {C : Nat → ClassId} {Y : dw_S} : va_D (fun q => b ≤ q) (dw_ws b C Y) := tw_ap_D (Nat.le_refl 442) dw_wok
theorem dw_get {b : Nat} {C : Nat → ClassId} {Y : dw_S} {k : Nat} (h1 : k < dw_n Y) (h2 : 442 ≤ k) (h3 : dw_k Y k ≠ 99) : ∃ i, (dw_ws b C Y)[442 + i]? = some (b + k, dw_E b C Y k) ∧ (dw_L Y)[i]? = some k := by
  obtain ⟨i, hi⟩ := List.getElem?_of_mem (dw_L_mem.mpr ⟨h1, h2, h3⟩)
  refine ⟨i, ?_, hi⟩
  unfold dw_ws
  rw [List.getElem?_append_right (by rw [tw_wl_size]; omega), tw_wl_size, Nat.add_sub_cancel_left]
  unfold dw_wl
  rw [List.getElem?_map, hi]
  rfl
theorem dw_map_set {α β : Type} {l : List α} {f g : α → β} {i : Nat} {k : α} (hn : ∀ j, l[j]? = some k → j = i) (hi : l[i]? = some k) (h : ∀ a, a ∈ l → a ≠ k → f a = g a) : (l.map f).set i (g k) = l.map g := by
  apply List.ext_getElem?
  intro j
  rw [List.getElem?_set, List.getElem?_map, List.getElem?_map, List.length_map]
  by_cases e : i = j
  · subst e
    rw [if_pos rfl, if_pos (List.getElem?_eq_some_iff.mp hi).1, hi]
    rfl
  · rw [if_neg e]
    cases hj : l[j]? with
    | none => rfl
    | some a =>
      have ha : a ≠ k := fun z => e (hn j (by rw [hj, z])).symm
      rw [Option.map_some, Option.map_some, h a (List.mem_of_getElem? hj) ha]
/-- a cell's content is another -/
theorem dw_set {b : Nat} {C : Nat → ClassId} {Y Y1 : dw_S} {k i : Nat} (hi : (dw_L Y)[i]? = some k) (hs : dw_s Y1 = dw_s Y) (hL : dw_L Y1 = dw_L Y) (h : ∀ a, a ≠ k → dw_E b C Y1 a = dw_E b C Y a) : (dw_ws b C Y).set (442 + i) (b + k, dw_E b C Y1 k) = dw_ws b C Y1 := by
  unfold dw_ws
  rw [List.set_append_right _ _ (by rw [tw_wl_size]; omega), tw_wl_size, Nat.add_sub_cancel_left, hs]
  unfold dw_wl
  rw [hL, dw_map_set (f := fun k => (b + k, dw_E b C Y k)) (g := fun k => (b + k, dw_E b C Y1 k)) (fun j hj => dw_nd_inj (dw_L_nd Y) hj hi) hi (fun a _ ha => by rw [h a ha])]
theorem dw_pi_k {Y : dw_S} {k i : Nat} {v : Int32} : dw_k (dw_pi Y k i v) = dw_k Y := rfl
theorem dw_E_pi {b : Nat} {C : Nat → ClassId} {Y : dw_S} {k i a : Nat} {v : Int32} (h : a ≠ k) : dw_E b C (dw_pi Y k i v) a = dw_E b C Y a := by
  have e : dw_i (dw_pi Y k i v) a = dw_i Y a := tw_up_n h
  unfold dw_E
  rw [e]
  rfl
theorem dw_E_pA {b : Nat} {C : Nat → ClassId} {Y : dw_S} {k a : Nat} {f : Nat → Int32} (h : a ≠ k) : dw_E b C (dw_pA Y k f) a = dw_E b C Y a := by
  have e : dw_i (dw_pA Y k f) a = dw_i Y a := tw_upA_n h
  unfold dw_E
  rw [e]
  rfl
theorem dw_E_pr {b : Nat} {C : Nat → ClassId} {Y : dw_S} {k i a : Nat} {v : Option Nat} (h : a ≠ k) : dw_E b C (dw_pr Y k i v) a = dw_E b C Y a := by
  have e : dw_r (dw_pr Y k i v) a = dw_r Y a := va_up_ne _ _ h
  unfold dw_E
  rw [e]
  rfl
theorem dw_nw_k {Y : dw_S} {a kd len : Nat} {f : Nat → Int32} {g : Nat → Option Nat} : dw_k (dw_nw Y a kd len f g) a = kd := congrArg Prod.fst (va_up_self _ _ _)
theorem dw_nw_l {Y : dw_S} {a kd len : Nat} {f : Nat → Int32} {g : Nat → Option Nat} : dw_l (dw_nw Y a kd len f g) a = len := congrArg Prod.snd (va_up_self _ _ _)
theorem dw_nw_i {Y : dw_S} {a kd len : Nat} {f : Nat → Int32} {g : Nat → Option Nat} : dw_i (dw_nw Y a kd len f g) a = f := tw_upA_s
theorem dw_nw_r {Y : dw_S} {a kd len : Nat} {f : Nat → Int32} {g : Nat → Option Nat} : dw_r (dw_nw Y a kd len f g) a = g := va_up_self _ _ _
theorem dw_E_nw {b : Nat} {C : Nat → ClassId} {Y : dw_S} {kd len a q : Nat} {f : Nat → Int32} {g : Nat → Option Nat} (h : q ≠ a) : dw_E b C (dw_nw Y a kd len f g) q = dw_E b C Y q := by
  have e1 : dw_k (dw_nw Y a kd len f g) q = dw_k Y q := congrArg Prod.fst (va_up_ne _ _ h)
  have e2 : dw_l (dw_nw Y a kd len f g) q = dw_l Y q := congrArg Prod.snd (va_up_ne _ _ h)
  have e3 : dw_i (dw_nw Y a kd len f g) q = dw_i Y q := tw_upA_n h
  have e4 : dw_r (dw_nw Y a kd len f g) q = dw_r Y q := va_up_ne _ _ h
  unfold dw_E
  rw [e1, e2, e3, e4]
theorem dw_fil {p : Nat → Bool} {n a : Nat} (hn : n ≤ a) (hg : ∀ k, n ≤ k → p k = false) : (List.range a).filter p = (List.range n).filter p := by
  obtain ⟨d, rfl⟩ := Nat.le.dest hn
  clear hn
  induction d with
  | zero => rfl
  | succ d ih =>
    rw [← ih, ← Nat.add_assoc, List.range_succ, List.filter_append]
    have e2 : List.filter p [n + d] = [] := by simp [hg (n + d) (Nat.le_add_right _ _)]
    rw [e2, List.append_nil]
theorem dw_L_nw {Y : dw_S} {a kd len : Nat} {f : Nat → Int32} {g : Nat → Option Nat} (h4 : 442 ≤ dw_n Y) (hk : kd ≠ 99) (ha : dw_n Y ≤ a) (hg : ∀ k, dw_n Y ≤ k → dw_k Y k = 99) : dw_L (dw_nw Y a kd len f g) = dw_L Y ++ [a] := by
  unfold dw_L
  show (List.range (a + 1)).filter _ = _
  rw [List.range_succ, List.filter_append]
  have e1 : dw_k (dw_nw Y a kd len f g) a = kd := congrArg Prod.fst (va_up_self _ _ _)
  have e2 : List.filter (fun k => decide (442 ≤ k ∧ dw_k (dw_nw Y a kd len f g) k ≠ 99)) [a] = [a] := by
    have : 442 ≤ a := Nat.le_trans h4 ha
    simp [e1, this, hk]
  rw [e2]
  refine congrArg (fun l => l ++ [a]) ?_
  rw [← dw_fil ha (p := fun k => decide (442 ≤ k ∧ dw_k Y k ≠ 99)) (fun k hk => by simp [hg k hk])]
  apply List.filter_congr
  intro q hq
  have hq := List.mem_range.mp hq
  have e3 : dw_k (dw_nw Y a kd len f g) q = dw_k Y q := congrArg Prod.fst (va_up_ne _ _ (by omega))
  rw [e3]
theorem dw_ws_nw {b : Nat} {C : Nat → ClassId} {Y : dw_S} {a kd len : Nat} {f : Nat → Int32} {g : Nat → Option Nat} (h4 : 442 ≤ dw_n Y) (hk : kd ≠ 99) (ha : dw_n Y ≤ a) (hg : ∀ k, dw_n Y ≤ k → dw_k Y k = 99) : dw_ws b C (dw_nw Y a kd len f g) = dw_ws b C Y ++ [(b + a, dw_E b C (dw_nw Y a kd len f g) a)] := by
  unfold dw_ws dw_wl
  rw [dw_L_nw h4 hk ha hg, List.map_append, List.append_assoc]
  refine congrArg (fun l => tw_wl b (tw_E b C (dw_s Y)) 442 ++ l) ?_
  refine congrArg (fun l => l ++ [(b + a, dw_E b C (dw_nw Y a kd len f g) a)]) (List.map_congr_left fun q hq => ?_)
  rw [dw_E_nw (by have := (dw_L_mem.mp hq).1; omega)]
/-- what a cell more makes of the world -/
theorem dw_W_nw {b a : Nat} {D : tw_G} {C : Nat → ClassId} {Y : dw_S} {kd len : Nat} {f : Nat → Int32} {g : Nat → Option Nat} {H H1 : Heap} (hk : kd ≠ 99) (h : dw_W b D C Y H) (hz : H.size = b + a) (z1 : H1.size = H.size + 1) (o1 : ∀ q, q < H.size → H1[q]? = H[q]?) (he : va_at D.1 vwCl (b + a, dw_E b C (dw_nw Y a kd len f g) a) H1) : dw_W b D C (dw_nw Y a kd len f g) H1 := by
  obtain ⟨hP, hz0, h4, hg⟩ := h
  have ha : dw_n Y ≤ a := by omega
  refine ⟨?_, by rw [z1, hz]; exact Nat.le_refl _, Nat.le_trans h4 (Nat.le_succ_of_le ha), fun k hk => ?_⟩
  · rw [dw_ws_nw h4 hk ha hg]
    exact (hP.kept (fun k q hq => o1 q.1 ((hP k q hq).lt))).app (fun k q hq => by
      have hz : k < 1 := (List.getElem?_eq_some_iff.mp hq).1
      rw [show k = 0 by omega] at hq
      cases hq
      exact he)
  · have hk : a + 1 ≤ k := hk
    exact (congrArg Prod.fst (va_up_ne _ _ (by omega))).trans (hg k (by omega))
/-- .. and what a put makes of it -/
theorem dw_W_put {b i k : Nat} {D : tw_G} {C : Nat → ClassId} {Y Y1 : dw_S} {H H1 : Heap} (h : dw_W b D C Y H) (hi : (dw_L Y)[i]? = some k) (hs : dw_s Y1 = dw_s Y) (hn : dw_n Y1 = dw_n Y) (hk : dw_k Y1 = dw_k Y) (hE : ∀ a, a ≠ k → dw_E b C Y1 a = dw_E b C Y a) (z1 : H.size ≤ H1.size) (hP : va_P D.1 vwCl ((dw_ws b C Y).set (442 + i) (b + k, dw_E b C Y1 k)) H1) : dw_W b D C Y1 H1 := by
  obtain ⟨-, hz, h4, hg⟩ := h
  refine ⟨?_, by rw [hn]; exact Nat.le_trans hz z1, by rw [hn]; exact h4, fun a ha => by rw [hk]; exact hg a (by rw [← hn]; exact ha)⟩
  rw [dw_set hi hs (by unfold dw_L; rw [hn, hk]) hE] at hP
  exact hP
theorem dw_putS {A : Nat → Prop} {H0 H H1 : Heap} {locs locs1 : List Loc} (h1 : va_S A H0 H locs) (h2 : va_S A H H1 locs1) : va_S A H0 H1 locs1 := ⟨Nat.le_trans h1.1 h2.1, fun q a b => (h2.2.1 q (Nat.lt_of_lt_of_le a h1.1) b).trans (h1.2.1 q a b), h2.2.2⟩
theorem dw_selfS {A : Nat → Prop} {H0 H : Heap} {locs : List Loc} (h1 : va_S A H0 H locs) : va_S A H H locs := ⟨Nat.le_refl _, fun _ _ _ => rfl, h1.2.2⟩
theorem dw_E12 {b k : Nat} {C : Nat → ClassId} {Y : dw_S} (h : dw_k Y k = 12) : dw_E b C Y k = .inr (12, [dw_v b (dw_r Y k 0), dw_v b (dw_r Y k 1), .int (dw_i Y k 2)]) := by unfold dw_E; rw [h]; rfl
theorem dw_E13 {b k : Nat} {C : Nat → ClassId} {Y : dw_S} (h : dw_k Y k = 13) : dw_E b C Y k = .inr (13, [.int (dw_i Y k 0), .int (dw_i Y k 1), dw_v b (dw_r Y k 2), dw_v b (dw_r Y k 3), dw_v b (dw_r Y k 4), dw_v b (dw_r Y k 5), dw_v b (dw_r Y k 6), .int (dw_i Y k 7), .int (dw_i Y k 8), .int (dw_i Y k 9), .int (dw_i Y k 10), dw_v b (dw_r Y k 11), dw_v b (dw_r Y k 12)]) := by unfold dw_E; rw [h]; rfl
theorem dw_E14 {b k : Nat} {C : Nat → ClassId} {Y : dw_S} (h : dw_k Y k = 14) : dw_E b C Y k = .inr (14, [.int (dw_i Y k 0), .int (dw_i Y k 1), .int (dw_i Y k 2), .int (dw_i Y k 3)]) := by unfold dw_E; rw [h]; rfl
theorem dw_E15 {b k : Nat} {C : Nat → ClassId} {Y : dw_S} (h : dw_k Y k = 15) : dw_E b C Y k = .inr (15, [.int (dw_i Y k 0)]) := by unfold dw_E; rw [h]; rfl
theorem dw_E16 {b k : Nat} {C : Nat → ClassId} {Y : dw_S} (h : dw_k Y k = 16) : dw_E b C Y k = .inr (16, [dw_v b (dw_r Y k 0), .int (dw_i Y k 1), .int (dw_i Y k 2), .int (dw_i Y k 3)]) := by unfold dw_E; rw [h]; rfl
theorem dw_E17 {b k : Nat} {C : Nat → ClassId} {Y : dw_S} (h : dw_k Y k = 17) : dw_E b C Y k = .inr (17, [dw_v b (dw_r Y k 0), .int (dw_i Y k 1), .int (dw_i Y k 2), .int (dw_i Y k 3)]) := by unfold dw_E; rw [h]; rfl
theorem dw_E20 {b k : Nat} {C : Nat → ClassId} {Y : dw_S} (h : dw_k Y k = 20) : dw_E b C Y k = .inl (C 0, dw_l Y k, .inl (dw_i Y k)) := by unfold dw_E; rw [h]; rfl
theorem dw_E21 {b k : Nat} {C : Nat → ClassId} {Y : dw_S} (h : dw_k Y k = 21) : dw_E b C Y k = .inl (C 1, dw_l Y k, .inl (dw_i Y k)) := by unfold dw_E; rw [h]; rfl
theorem dw_E22 {b k : Nat} {C : Nat → ClassId} {Y : dw_S} (h : dw_k Y k = 22) : dw_E b C Y k = .inl (C 5, dw_l Y k, .inl (dw_i Y k)) := by unfold dw_E; rw [h]; rfl
theorem dw_E23 {b k : Nat} {C : Nat → ClassId} {Y : dw_S} (h : dw_k Y k = 23) : dw_E b C Y k = .inl (C 6, dw_l Y k, .inr (.inr (.inr (.inr (fun j => Option.map (fun a => b + a) (dw_r Y k j)))))) := by unfold dw_E; rw [h]; rfl
theorem dw_E24 {b k : Nat} {C : Nat → ClassId} {Y : dw_S} (h : dw_k Y k = 24) : dw_E b C Y k = .inl (C 7, dw_l Y k, .inr (.inr (.inr (.inr (fun j => Option.map (fun a => b + a) (dw_r Y k j)))))) := by unfold dw_E; rw [h]; rfl
theorem dw_E25 {b k : Nat} {C : Nat → ClassId} {Y : dw_S} (h : dw_k Y k = 25) : dw_E b C Y k = .inl (C 8, dw_l Y k, .inr (.inr (.inr (.inr (fun j => Option.map (fun a => b + a) (dw_r Y k j)))))) := by unfold dw_E; rw [h]; rfl
theorem dw_E26 {b k : Nat} {C : Nat → ClassId} {Y : dw_S} (h : dw_k Y k = 26) : dw_E b C Y k = .inl (C 4, dw_l Y k, .inr (.inr (.inr (.inr (fun j => Option.map (fun a => b + a) (dw_r Y k j)))))) := by unfold dw_E; rw [h]; rfl
