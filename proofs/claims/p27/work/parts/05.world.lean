/-! THE WORLD: all cells that the law makes lie one behind another from the address B on; tw_kd says what the cell k is, tw_rt what its references are, tw_ln how long an array is; the numbers are σ k i. -/
abbrev tw_Sg : Type := Nat → Nat → Int32
def tw_up (σ : tw_Sg) (k i : Nat) (x : Int32) : tw_Sg := fun a => if a = k then upd (σ a) i x else σ a
def tw_upA (σ : tw_Sg) (k : Nat) (f : Nat → Int32) : tw_Sg := fun a => if a = k then f else σ a
theorem tw_up_s {σ : tw_Sg} {k i : Nat} {x : Int32} : tw_up σ k i x k = upd (σ k) i x := if_pos rfl
theorem tw_up_n {σ : tw_Sg} {k i a : Nat} {x : Int32} (h : a ≠ k) : tw_up σ k i x a = σ a := if_neg h
theorem tw_upA_s {σ : tw_Sg} {k : Nat} {f : Nat → Int32} : tw_upA σ k f k = f := if_pos rfl
theorem tw_upA_n {σ : tw_Sg} {k a : Nat} {f : Nat → Int32} (h : a ≠ k) : tw_upA σ k f a = σ a := if_neg h
theorem tw_up_A {σ : tw_Sg} {k i : Nat} {x : Int32} : tw_up σ k i x = tw_upA σ k (upd (σ k) i x) := by
  funext a
  by_cases h : a = k
  · subst h; rw [tw_up_s, tw_upA_s]
  · rw [tw_up_n h, tw_upA_n h]
theorem tw_declW {x : MethodName} {s U : State} (hW : s.WarmedH U.vm) (hZ : va_Nw (.declares x) s) : va_Nw (.declares x) U := va_tabs rfl (rfl : (s.setVm U.vm).vm = U.vm) (A := #[]) (A' := #[]) (by
  have h : (Cond.declares x).before #[] (s.setVm U.vm) = (Cond.declares x).before #[] s := by
    have e : U.vm.method? = s.vm.method? := funext fun m => hW.alike.method? m
    simp only [Cond.before, Cond.holds, Cond.value, State.vm_setVm, State.methodNamed?_setVm hW.alike, e]
  rw [h]
  exact hZ)
/-- the words that stay as the machine goes on -/
def tw_okw : Cond → Bool
  | .fieldLinkNest _ _ _ _ _ _ => true
  | .methodLinkNest _ _ _ _ => true
  | .castable _ _ => true
  | .declares _ => true
  | w => goodWord w && w.onTables
def tw_AW : List Cond := lw_tbl.filter tw_okw
def tw_Ws (U : State) : Prop := ∀ w ∈ lw_tbl, tw_okw w = true → va_Nw w U
theorem tw_okw_on {w : Cond} (h : tw_okw w = true) : w.onTables = true := by
  cases w <;> first | rfl | (simp only [tw_okw, Bool.and_eq_true] at h; exact h.2)
theorem tw_Ws.warm {s U : State} (h : tw_Ws s) (hW : s.WarmedH U.vm) : tw_Ws U := by
  intro w hw ho
  have h1 := h w hw ho
  cases w
  case fieldLinkNest => exact va_Nw.warmF hW h1
  case methodLinkNest => exact va_Nw.warmM hW h1
  case castable => exact va_Nw.warmC hW h1
  case declares => exact tw_declW hW h1
  all_goals (simp only [tw_okw, Bool.and_eq_true] at ho; exact word_at hW (good_of_word ho.1) h1)
theorem tw_Ws.use {U : State} (h : tw_Ws U) {w : Cond} (i : Nat) (hi : lw_tbl[i]? = some w) (ho : tw_okw w = true) {A : Array Value} : w.before A U = true := (h w (List.mem_of_getElem? hi) ho).use (tw_okw_on ho)
theorem tw_Ws.all {U : State} (h : tw_Ws U) {A : Array Value} : ∀ w ∈ tw_AW, w.before A U = true := by
  intro w hw
  obtain ⟨h1, h2⟩ := List.mem_filter.mp hw
  exact (h w h1 h2).use (tw_okw_on h2)
theorem tw_Ws.same {s U : State} (h : tw_Ws s) (e : s.vm = U.vm) : tw_Ws U := fun w hw ho => (h w hw ho).same (tw_okw_on ho) e
/-- the list of a world of n cells -/
def tw_wl (B : Nat) (f : Nat → va_E) (n : Nat) : va_W := (List.range n).map (fun k => (B + k, f k))
theorem tw_wl_get {B n k : Nat} {f : Nat → va_E} (h : k < n) : (tw_wl B f n)[k]? = some (B + k, f k) := by
  unfold tw_wl
  rw [List.getElem?_map, List.getElem?_range h]
  rfl
theorem tw_wl_len {B n k : Nat} {f : Nat → va_E} {q : Nat × va_E} (h : (tw_wl B f n)[k]? = some q) : k < n ∧ q = (B + k, f k) := by
  have h1 : k < (tw_wl B f n).length := (List.getElem?_eq_some_iff.mp h).1
  have h2 : k < n := by simpa [tw_wl] using h1
  rw [tw_wl_get h2] at h
  exact ⟨h2, (Option.some.inj h).symm⟩
theorem tw_wl_set {B n k : Nat} {f : Nat → va_E} {e : va_E} : (tw_wl B f n).set k (B + k, e) = tw_wl B (va_up f k e) n := by
  apply List.ext_getElem?
  intro j
  rw [List.getElem?_set]
  unfold tw_wl
  rw [List.getElem?_map, List.getElem?_map, List.length_map, List.length_range]
  by_cases hj : j < n
  · rw [List.getElem?_range hj]
    by_cases h : k = j
    · subst h
      simp [va_up, hj]
    · rw [if_neg h]
      simp [va_up, Ne.symm h]
  · have h0 : (List.range n)[j]? = none := by simp; omega
    rw [h0]
    by_cases h : k = j
    · subst h
      simp [hj]
    · rw [if_neg h]
      rfl
theorem tw_wl_D0 {B n : Nat} {f : Nat → va_E} : va_D (fun q => B ≤ q) (tw_wl B f n) := by
  refine ⟨fun i j p q hp hq h => ?_, fun k q hq => ?_⟩
  · obtain ⟨-, rfl⟩ := tw_wl_len hp
    obtain ⟨-, rfl⟩ := tw_wl_len hq
    have : B + i = B + j := h
    omega
  · obtain ⟨-, rfl⟩ := tw_wl_len hq
    exact Nat.le_add_right B k
/-- what lies beside the class's cells -/
abbrev tw_G : Type := va_G × va_W
def tw_Wok (B : Nat) (W : va_W) : Prop := va_D (fun q => B + 441 < q) W
theorem tw_wl_size {B n : Nat} {f : Nat → va_E} : (tw_wl B f n).length = n := by simp [tw_wl]
theorem tw_ap_get {B n k : Nat} {f : Nat → va_E} {W : va_W} (h : k < n) : (tw_wl B f n ++ W)[k]? = some (B + k, f k) := by
  rw [List.getElem?_append_left (by rw [tw_wl_size]; exact h)]
  exact tw_wl_get h
theorem tw_ap_set {B n k : Nat} {f : Nat → va_E} {e : va_E} {W : va_W} (h : k < n) : (tw_wl B f n ++ W).set k (B + k, e) = tw_wl B (va_up f k e) n ++ W := by
  rw [List.set_append_left _ _ (by rw [tw_wl_size]; exact h), tw_wl_set]
theorem tw_ap_D {B n : Nat} {f : Nat → va_E} {W : va_W} (hn : n ≤ 441 + 1) (hW : tw_Wok B W) : va_D (fun q => B ≤ q) (tw_wl B f n ++ W) := by
  refine ⟨fun i j p q hp hq h => ?_, fun k q hq => ?_⟩
  · rcases Nat.lt_or_ge i n with hi | hi <;> rcases Nat.lt_or_ge j n with hj | hj
    · rw [List.getElem?_append_left (by rw [tw_wl_size]; exact hi)] at hp
      rw [List.getElem?_append_left (by rw [tw_wl_size]; exact hj)] at hq
      exact tw_wl_D0.1 i j p q hp hq h
    · rw [List.getElem?_append_left (by rw [tw_wl_size]; exact hi)] at hp
      rw [List.getElem?_append_right (by rw [tw_wl_size]; exact hj)] at hq
      obtain ⟨-, rfl⟩ := tw_wl_len hp
      have h1 : B + 441 < q.1 := hW.2 _ q hq
      have h2 : B + i = q.1 := h
      omega
    · rw [List.getElem?_append_right (by rw [tw_wl_size]; exact hi)] at hp
      rw [List.getElem?_append_left (by rw [tw_wl_size]; exact hj)] at hq
      obtain ⟨-, rfl⟩ := tw_wl_len hq
      have h1 : B + 441 < p.1 := hW.2 _ p hp
      have h2 : p.1 = B + j := h
      omega
    · rw [List.getElem?_append_right (by rw [tw_wl_size]; exact hi)] at hp
      rw [List.getElem?_append_right (by rw [tw_wl_size]; exact hj)] at hq
      have h1 := hW.1 _ _ p q hp hq h
      rw [tw_wl_size] at h1
      omega
  · rcases Nat.lt_or_ge k n with hi | hi
    · rw [List.getElem?_append_left (by rw [tw_wl_size]; exact hi)] at hq
      exact tw_wl_D0.2 k q hq
    · rw [List.getElem?_append_right (by rw [tw_wl_size]; exact hi)] at hq
      have h1 : B + 441 < q.1 := hW.2 _ q hq
      show B ≤ q.1
      omega
theorem tw_wl_cong {B n : Nat} {f g : Nat → va_E} (h : ∀ k, k < n → f k = g k) : tw_wl B f n = tw_wl B g n := by
  unfold tw_wl
  apply List.map_congr_left
  intro k hk
  rw [h k (List.mem_range.mp hk)]
/-- what the cell k is: 0 to 12 an object of a class, from 13 on an array -/
def tw_kd (k : Nat) : Nat := cond (Nat.blt k 442) (cond (Nat.blt k 116) (cond (Nat.blt k 36) (cond (Nat.blt k 14) (cond (Nat.blt k 2) (cond (Nat.blt k 1) (11) (2)) (cond (Nat.blt k 6) ((fun j => cond (Nat.blt j 1) (0) (13)) (Nat.mod (Nat.sub k 2) 2)) ((fun j => cond (Nat.blt j 1) (7) (13)) (Nat.mod (Nat.sub k 6) 2)))) (cond (Nat.blt k 33) (cond (Nat.blt k 15) (1) ((fun j => cond (Nat.blt j 1) (7) (13)) (Nat.mod (Nat.sub k 15) 2))) (cond (Nat.blt k 34) (10) (cond (Nat.blt k 35) (7) (13))))) (cond (Nat.blt k 40) (cond (Nat.blt k 38) (cond (Nat.blt k 37) (5) (0)) (cond (Nat.blt k 39) (13) (15))) (cond (Nat.blt k 113) (cond (Nat.blt k 112) ((fun j => cond (Nat.blt j 1) (0) (13)) (Nat.mod (Nat.sub k 40) 2)) (5)) (cond (Nat.blt k 114) (0) (cond (Nat.blt k 115) (13) (15)))))) (cond (Nat.blt k 400) (cond (Nat.blt k 140) (cond (Nat.blt k 135) (cond (Nat.blt k 134) ((fun j => cond (Nat.blt j 1) (0) (13)) (Nat.mod (Nat.sub k 116) 2)) (8)) (cond (Nat.blt k 136) (3) ((fun j => cond (Nat.blt j 1) (7) (13)) (Nat.mod (Nat.sub k 136) 2)))) (cond (Nat.blt k 142) (cond (Nat.blt k 141) (0) (13)) (cond (Nat.blt k 143) (4) (cond (Nat.blt k 144) (16) ((fun j => cond (Nat.blt j 5) (cond (Nat.blt j 1) (2) ((fun i => cond (Nat.blt i 1) (0) (13)) (Nat.mod (Nat.sub j 1) 2))) (cond (Nat.blt j 13) ((fun i => cond (Nat.blt i 1) (7) (13)) (Nat.mod (Nat.sub j 5) 2)) (cond (Nat.blt j 14) (1) ((fun i => cond (Nat.blt i 1) (7) (13)) (Nat.mod (Nat.sub j 14) 2))))) (Nat.mod (Nat.sub k 144) 32)))))) (cond (Nat.blt k 408) (cond (Nat.blt k 402) (cond (Nat.blt k 401) (6) (7)) (cond (Nat.blt k 403) (13) (cond (Nat.blt k 404) (2) ((fun j => cond (Nat.blt j 1) (0) (13)) (Nat.mod (Nat.sub k 404) 2))))) (cond (Nat.blt k 417) (cond (Nat.blt k 416) ((fun j => cond (Nat.blt j 1) (7) (13)) (Nat.mod (Nat.sub k 408) 2)) (1)) (cond (Nat.blt k 435) ((fun j => cond (Nat.blt j 1) (7) (13)) (Nat.mod (Nat.sub k 417) 2)) (cond (Nat.blt k 436) (9) ((fun j => cond (Nat.blt j 1) (7) (13)) (Nat.mod (Nat.sub k 436) 2)))))))) 99
def tw_ln (k : Nat) : Nat := cond (Nat.blt k 442) (cond (Nat.blt k 139) (cond (Nat.blt k 36) (cond (Nat.blt k 20) (cond (Nat.blt k 7) (cond (Nat.blt k 3) (0) ((fun j => cond (Nat.blt j 1) (22) (0)) (Nat.mod (Nat.sub k 3) 2))) (cond (Nat.blt k 15) ((fun j => cond (Nat.blt j 1) (8) (0)) (Nat.mod (Nat.sub k 7) 2)) (cond (Nat.blt k 19) ((fun j => cond (Nat.blt j 1) (0) (4)) (Nat.mod (Nat.sub k 15) 2)) (0)))) (cond (Nat.blt k 23) (cond (Nat.blt k 21) (32) (cond (Nat.blt k 22) (0) (4))) (cond (Nat.blt k 33) ((fun j => cond (Nat.blt j 1) (0) (32)) (Nat.mod (Nat.sub k 23) 2)) (cond (Nat.blt k 35) (0) (704))))) (cond (Nat.blt k 114) (cond (Nat.blt k 39) (cond (Nat.blt k 38) (0) (22)) (cond (Nat.blt k 40) (36) (cond (Nat.blt k 112) ((fun j => cond (Nat.blt j 1) (0) (22)) (Nat.mod (Nat.sub k 40) 2)) (0)))) (cond (Nat.blt k 134) (cond (Nat.blt k 115) (22) (cond (Nat.blt k 116) (9) ((fun j => cond (Nat.blt j 1) (0) (22)) (Nat.mod (Nat.sub k 116) 2)))) (cond (Nat.blt k 137) (0) (cond (Nat.blt k 138) (704) (0)))))) (cond (Nat.blt k 417) (cond (Nat.blt k 144) (cond (Nat.blt k 141) (cond (Nat.blt k 140) (400) (0)) (cond (Nat.blt k 142) (22) (cond (Nat.blt k 143) (0) (8)))) (cond (Nat.blt k 403) (cond (Nat.blt k 400) ((fun j => cond (Nat.blt j 18) (cond (Nat.blt j 6) (cond (Nat.blt j 2) (0) ((fun i => cond (Nat.blt i 1) (22) (0)) (Nat.mod (Nat.sub j 2) 2))) (cond (Nat.blt j 14) ((fun i => cond (Nat.blt i 1) (8) (0)) (Nat.mod (Nat.sub j 6) 2)) ((fun i => cond (Nat.blt i 1) (0) (4)) (Nat.mod (Nat.sub j 14) 2)))) (cond (Nat.blt j 20) (cond (Nat.blt j 19) (0) (32)) (cond (Nat.blt j 21) (0) (cond (Nat.blt j 22) (4) ((fun i => cond (Nat.blt i 1) (0) (32)) (Nat.mod (Nat.sub j 22) 2)))))) (Nat.mod (Nat.sub k 144) 32)) (cond (Nat.blt k 402) (0) (600))) (cond (Nat.blt k 405) (0) (cond (Nat.blt k 409) ((fun j => cond (Nat.blt j 1) (22) (0)) (Nat.mod (Nat.sub k 405) 2)) ((fun j => cond (Nat.blt j 1) (8) (0)) (Nat.mod (Nat.sub k 409) 2)))))) (cond (Nat.blt k 435) (cond (Nat.blt k 423) (cond (Nat.blt k 421) ((fun j => cond (Nat.blt j 1) (0) (4)) (Nat.mod (Nat.sub k 417) 2)) (cond (Nat.blt k 422) (0) (32))) (cond (Nat.blt k 424) (0) (cond (Nat.blt k 425) (4) ((fun j => cond (Nat.blt j 1) (0) (32)) (Nat.mod (Nat.sub k 425) 2))))) (cond (Nat.blt k 439) (cond (Nat.blt k 437) (0) (cond (Nat.blt k 438) (9) (0))) (cond (Nat.blt k 440) (90) (cond (Nat.blt k 441) (0) (4608))))))) 0
theorem tw_blt {a b : Nat} (h : b ≤ a) : Nat.blt a b = false := by
  cases e : Nat.blt a b
  · rfl
  · exact absurd (Nat.le_of_ble_eq_true e) (by omega)
theorem tw_kd_lt {k c : Nat} (h : tw_kd k = c) (hc : c ≠ 99) : k < 442 := by
  rcases Nat.lt_or_ge k 442 with h1 | h1
  · exact h1
  · exfalso
    apply hc
    rw [← h]
    unfold tw_kd
    rw [tw_blt h1]
    rfl
theorem tw_all {p : Nat → Bool} (h : (List.range 442).all p = true) {k : Nat} (hk : k < 442) : p k = true := List.all_eq_true.mp h k (List.mem_range.mpr hk)
theorem tw_kdk {a c : Nat} {f : Nat → Bool} (hc : c ≠ 99) (h : (List.range 442).all (fun k => tw_kd k != c || f k) = true) (hk : tw_kd a = c) : f a = true := by
  have h1 := tw_all h (tw_kd_lt hk hc)
  simpa [hk] using h1
def tw_fs0 (B : Nat) (σ : tw_Sg) (k : Nat) : List Value := [.ref (B + (k + 1))]
def tw_fs1 (B : Nat) (σ : tw_Sg) (k : Nat) : List Value := [.int (σ k 0), .ref (B + (k + 1)), .ref (B + (k + 3)), .ref (B + (k + 5)), .ref (B + (k + 7)), .ref (B + (k + 9)), .ref (B + (k + 11)), .ref (B + (k + 13)), .ref (B + (k + 15)), .ref (B + (k + 17))]
def tw_fs2 (B : Nat) (σ : tw_Sg) (k : Nat) : List Value := [.int (σ k 0), .int (σ k 1), .ref (B + (k + 1)), .ref (B + (k + 3)), .ref (B + (k + 5)), .int (σ k 5), .ref (B + (k + 7)), .ref (B + (k + 9)), .ref (B + (k + 11)), .ref (B + (k + 13)), .int (σ k 10), .int (σ k 11), .int (σ k 12), .int (σ k 13)]
def tw_fs3 (B : Nat) (σ : tw_Sg) (k : Nat) : List Value := [.ref (B + 136), .ref (B + 138)]
def tw_fs4 (B : Nat) (σ : tw_Sg) (k : Nat) : List Value := [.ref (B + 143), .int (σ k 1), .int (σ k 2)]
def tw_fs5 (B : Nat) (σ : tw_Sg) (k : Nat) : List Value := [.ref (B + (k + 3)), .ref (B + (k + 1))]
def tw_fs6 (B : Nat) (σ : tw_Sg) (k : Nat) : List Value := [.ref (B + 401), .int (σ k 1), .ref (B + 403), .int (σ k 3), .int (σ k 4), .int (σ k 5), .int (σ k 6), .int (σ k 7), .int (σ k 8), .int (σ k 9), .int (σ k 10)]
def tw_fs7 (B : Nat) (σ : tw_Sg) (k : Nat) : List Value := [.ref (B + (k + 1))]
def tw_fs8 (B : Nat) (σ : tw_Sg) (k : Nat) : List Value := [.ref (B + 1), .ref (B + 33), .ref (B + 135), .ref (B + 140)]
def tw_fs9 (B : Nat) (σ : tw_Sg) (k : Nat) : List Value := [.ref (B + 1), .ref (B + 134), .int (σ k 2), .ref (B + 436), .ref (B + 438), .ref (B + 440)]
def tw_fs10 (B : Nat) (σ : tw_Sg) (k : Nat) : List Value := [.ref (B + 1), .ref (B + 34), .ref (B + 36), .ref (B + 112)]
def tw_fs11 (B : Nat) (σ : tw_Sg) (k : Nat) : List Value := [.ref (B + 1), .ref (B + 142), .ref (B + 400), .ref (B + 33), .ref (B + 134), .ref (B + 435), .int (σ k 6)]
/-- what the cell k holds; C: the classes of the arrays -/
def tw_E (B : Nat) (C : Nat → ClassId) (σ : tw_Sg) (k : Nat) : va_E := match tw_kd k with
  | 0 => .inr (0, tw_fs0 B σ k)
  | 1 => .inr (1, tw_fs1 B σ k)
  | 2 => .inr (2, tw_fs2 B σ k)
  | 3 => .inr (3, tw_fs3 B σ k)
  | 4 => .inr (4, tw_fs4 B σ k)
  | 5 => .inr (5, tw_fs5 B σ k)
  | 6 => .inr (6, tw_fs6 B σ k)
  | 7 => .inr (7, tw_fs7 B σ k)
  | 8 => .inr (8, tw_fs8 B σ k)
  | 9 => .inr (9, tw_fs9 B σ k)
  | 10 => .inr (10, tw_fs10 B σ k)
  | 11 => .inr (11, tw_fs11 B σ k)
  | 13 => .inl (C 0, tw_ln k, .inl (σ k))
  | 14 => .inl (C 1, tw_ln k, .inl (σ k))
  | 15 => .inl (C 2, tw_ln k, .inr (.inr (.inr (.inr (fun j => some (B + (k + 1 + 2 * j)))))))
  | 16 => .inl (C 3, tw_ln k, .inr (.inr (.inr (.inr (fun j => some (B + (k + 1 + 32 * j)))))))
  | _ => .inl (C 0, 0, .inl (σ k))
def tw_tys (C : Nat → ClassId) : List (ClassId × FieldType) := [(C 0, .int), (C 1, .boolean), (C 2, .object "TreasureWalk$Cells"), (C 3, .object "TreasureWalk$Data"), (C 4, .array .int), (C 5, .byte), (C 6, .object "TreasureWalkLaw$Leg"), (C 7, .object "TreasureWalkLaw$Clue"), (C 8, .object "TreasureWalkLaw$Island")]
theorem tw_E0 {B k : Nat} {C : Nat → ClassId} {σ : tw_Sg} (h : tw_kd k = 0) : tw_E B C σ k = .inr (0, tw_fs0 B σ k) := by unfold tw_E; rw [h]; rfl
theorem tw_E1 {B k : Nat} {C : Nat → ClassId} {σ : tw_Sg} (h : tw_kd k = 1) : tw_E B C σ k = .inr (1, tw_fs1 B σ k) := by unfold tw_E; rw [h]; rfl
theorem tw_E2 {B k : Nat} {C : Nat → ClassId} {σ : tw_Sg} (h : tw_kd k = 2) : tw_E B C σ k = .inr (2, tw_fs2 B σ k) := by unfold tw_E; rw [h]; rfl
theorem tw_E3 {B k : Nat} {C : Nat → ClassId} {σ : tw_Sg} (h : tw_kd k = 3) : tw_E B C σ k = .inr (3, tw_fs3 B σ k) := by unfold tw_E; rw [h]; rfl
theorem tw_E4 {B k : Nat} {C : Nat → ClassId} {σ : tw_Sg} (h : tw_kd k = 4) : tw_E B C σ k = .inr (4, tw_fs4 B σ k) := by unfold tw_E; rw [h]; rfl
theorem tw_E5 {B k : Nat} {C : Nat → ClassId} {σ : tw_Sg} (h : tw_kd k = 5) : tw_E B C σ k = .inr (5, tw_fs5 B σ k) := by unfold tw_E; rw [h]; rfl
theorem tw_E6 {B k : Nat} {C : Nat → ClassId} {σ : tw_Sg} (h : tw_kd k = 6) : tw_E B C σ k = .inr (6, tw_fs6 B σ k) := by unfold tw_E; rw [h]; rfl
theorem tw_E7 {B k : Nat} {C : Nat → ClassId} {σ : tw_Sg} (h : tw_kd k = 7) : tw_E B C σ k = .inr (7, tw_fs7 B σ k) := by unfold tw_E; rw [h]; rfl
theorem tw_E8 {B k : Nat} {C : Nat → ClassId} {σ : tw_Sg} (h : tw_kd k = 8) : tw_E B C σ k = .inr (8, tw_fs8 B σ k) := by unfold tw_E; rw [h]; rfl
theorem tw_E9 {B k : Nat} {C : Nat → ClassId} {σ : tw_Sg} (h : tw_kd k = 9) : tw_E B C σ k = .inr (9, tw_fs9 B σ k) := by unfold tw_E; rw [h]; rfl
theorem tw_E10 {B k : Nat} {C : Nat → ClassId} {σ : tw_Sg} (h : tw_kd k = 10) : tw_E B C σ k = .inr (10, tw_fs10 B σ k) := by unfold tw_E; rw [h]; rfl
theorem tw_E11 {B k : Nat} {C : Nat → ClassId} {σ : tw_Sg} (h : tw_kd k = 11) : tw_E B C σ k = .inr (11, tw_fs11 B σ k) := by unfold tw_E; rw [h]; rfl
theorem tw_E13 {B k : Nat} {C : Nat → ClassId} {σ : tw_Sg} (h : tw_kd k = 13) : tw_E B C σ k = .inl (C 0, tw_ln k, .inl (σ k)) := by unfold tw_E; rw [h]; rfl
theorem tw_E14 {B k : Nat} {C : Nat → ClassId} {σ : tw_Sg} (h : tw_kd k = 14) : tw_E B C σ k = .inl (C 1, tw_ln k, .inl (σ k)) := by unfold tw_E; rw [h]; rfl
theorem tw_E15 {B k : Nat} {C : Nat → ClassId} {σ : tw_Sg} (h : tw_kd k = 15) : tw_E B C σ k = .inl (C 2, tw_ln k, .inr (.inr (.inr (.inr (fun j => some (B + (k + 1 + 2 * j))))))) := by unfold tw_E; rw [h]; rfl
theorem tw_E16 {B k : Nat} {C : Nat → ClassId} {σ : tw_Sg} (h : tw_kd k = 16) : tw_E B C σ k = .inl (C 3, tw_ln k, .inr (.inr (.inr (.inr (fun j => some (B + (k + 1 + 32 * j))))))) := by unfold tw_E; rw [h]; rfl
theorem tw_E_cong {B k : Nat} {C : Nat → ClassId} {σ σ' : tw_Sg} (h : σ k = σ' k) : tw_E B C σ k = tw_E B C σ' k := by
  unfold tw_E
  simp only [tw_fs0, tw_fs1, tw_fs2, tw_fs3, tw_fs4, tw_fs5, tw_fs6, tw_fs7, tw_fs8, tw_fs9, tw_fs10, tw_fs11, h]
theorem tw_E_up {B k i : Nat} {C : Nat → ClassId} {σ : tw_Sg} {x : Int32} {e : va_E} (h : tw_E B C (tw_up σ k i x) k = e) : va_up (tw_E B C σ) k e = tw_E B C (tw_up σ k i x) := by
  funext a
  by_cases ha : a = k
  · subst ha; rw [va_up_self, h]
  · rw [va_up_ne _ _ ha]; exact tw_E_cong (tw_up_n ha).symm
theorem tw_E_upA {B k : Nat} {C : Nat → ClassId} {σ : tw_Sg} {f : Nat → Int32} {e : va_E} (h : tw_E B C (tw_upA σ k f) k = e) : va_up (tw_E B C σ) k e = tw_E B C (tw_upA σ k f) := by
  funext a
  by_cases ha : a = k
  · subst ha; rw [va_up_self, h]
  · rw [va_up_ne _ _ ha]; exact tw_E_cong (tw_upA_n ha).symm
theorem tw_p1_0 {B k : Nat} {C : Nat → ClassId} {σ : tw_Sg} {x : Int32} (h : tw_kd k = 1) : tw_E B C (tw_up σ k 0 x) k = .inr (1, (tw_fs1 B σ k).set 0 (.int x)) := by rw [tw_E1 h]; simp [tw_fs1, tw_up_s, upd]
theorem tw_p2_0 {B k : Nat} {C : Nat → ClassId} {σ : tw_Sg} {x : Int32} (h : tw_kd k = 2) : tw_E B C (tw_up σ k 0 x) k = .inr (2, (tw_fs2 B σ k).set 0 (.int x)) := by rw [tw_E2 h]; simp [tw_fs2, tw_up_s, upd]
theorem tw_p2_1 {B k : Nat} {C : Nat → ClassId} {σ : tw_Sg} {x : Int32} (h : tw_kd k = 2) : tw_E B C (tw_up σ k 1 x) k = .inr (2, (tw_fs2 B σ k).set 1 (.int x)) := by rw [tw_E2 h]; simp [tw_fs2, tw_up_s, upd]
theorem tw_p2_5 {B k : Nat} {C : Nat → ClassId} {σ : tw_Sg} {x : Int32} (h : tw_kd k = 2) : tw_E B C (tw_up σ k 5 x) k = .inr (2, (tw_fs2 B σ k).set 5 (.int x)) := by rw [tw_E2 h]; simp [tw_fs2, tw_up_s, upd]
theorem tw_p2_10 {B k : Nat} {C : Nat → ClassId} {σ : tw_Sg} {x : Int32} (h : tw_kd k = 2) : tw_E B C (tw_up σ k 10 x) k = .inr (2, (tw_fs2 B σ k).set 10 (.int x)) := by rw [tw_E2 h]; simp [tw_fs2, tw_up_s, upd]
theorem tw_p2_11 {B k : Nat} {C : Nat → ClassId} {σ : tw_Sg} {x : Int32} (h : tw_kd k = 2) : tw_E B C (tw_up σ k 11 x) k = .inr (2, (tw_fs2 B σ k).set 11 (.int x)) := by rw [tw_E2 h]; simp [tw_fs2, tw_up_s, upd]
theorem tw_p2_12 {B k : Nat} {C : Nat → ClassId} {σ : tw_Sg} {x : Int32} (h : tw_kd k = 2) : tw_E B C (tw_up σ k 12 x) k = .inr (2, (tw_fs2 B σ k).set 12 (.int x)) := by rw [tw_E2 h]; simp [tw_fs2, tw_up_s, upd]
theorem tw_p2_13 {B k : Nat} {C : Nat → ClassId} {σ : tw_Sg} {x : Int32} (h : tw_kd k = 2) : tw_E B C (tw_up σ k 13 x) k = .inr (2, (tw_fs2 B σ k).set 13 (.int x)) := by rw [tw_E2 h]; simp [tw_fs2, tw_up_s, upd]
theorem tw_p4_1 {B k : Nat} {C : Nat → ClassId} {σ : tw_Sg} {x : Int32} (h : tw_kd k = 4) : tw_E B C (tw_up σ k 1 x) k = .inr (4, (tw_fs4 B σ k).set 1 (.int x)) := by rw [tw_E4 h]; simp [tw_fs4, tw_up_s, upd]
theorem tw_p4_2 {B k : Nat} {C : Nat → ClassId} {σ : tw_Sg} {x : Int32} (h : tw_kd k = 4) : tw_E B C (tw_up σ k 2 x) k = .inr (4, (tw_fs4 B σ k).set 2 (.int x)) := by rw [tw_E4 h]; simp [tw_fs4, tw_up_s, upd]
theorem tw_p6_1 {B k : Nat} {C : Nat → ClassId} {σ : tw_Sg} {x : Int32} (h : tw_kd k = 6) : tw_E B C (tw_up σ k 1 x) k = .inr (6, (tw_fs6 B σ k).set 1 (.int x)) := by rw [tw_E6 h]; simp [tw_fs6, tw_up_s, upd]
theorem tw_p6_3 {B k : Nat} {C : Nat → ClassId} {σ : tw_Sg} {x : Int32} (h : tw_kd k = 6) : tw_E B C (tw_up σ k 3 x) k = .inr (6, (tw_fs6 B σ k).set 3 (.int x)) := by rw [tw_E6 h]; simp [tw_fs6, tw_up_s, upd]
theorem tw_p6_4 {B k : Nat} {C : Nat → ClassId} {σ : tw_Sg} {x : Int32} (h : tw_kd k = 6) : tw_E B C (tw_up σ k 4 x) k = .inr (6, (tw_fs6 B σ k).set 4 (.int x)) := by rw [tw_E6 h]; simp [tw_fs6, tw_up_s, upd]
theorem tw_p6_5 {B k : Nat} {C : Nat → ClassId} {σ : tw_Sg} {x : Int32} (h : tw_kd k = 6) : tw_E B C (tw_up σ k 5 x) k = .inr (6, (tw_fs6 B σ k).set 5 (.int x)) := by rw [tw_E6 h]; simp [tw_fs6, tw_up_s, upd]
theorem tw_p6_6 {B k : Nat} {C : Nat → ClassId} {σ : tw_Sg} {x : Int32} (h : tw_kd k = 6) : tw_E B C (tw_up σ k 6 x) k = .inr (6, (tw_fs6 B σ k).set 6 (.int x)) := by rw [tw_E6 h]; simp [tw_fs6, tw_up_s, upd]
theorem tw_p6_7 {B k : Nat} {C : Nat → ClassId} {σ : tw_Sg} {x : Int32} (h : tw_kd k = 6) : tw_E B C (tw_up σ k 7 x) k = .inr (6, (tw_fs6 B σ k).set 7 (.int x)) := by rw [tw_E6 h]; simp [tw_fs6, tw_up_s, upd]
theorem tw_p6_8 {B k : Nat} {C : Nat → ClassId} {σ : tw_Sg} {x : Int32} (h : tw_kd k = 6) : tw_E B C (tw_up σ k 8 x) k = .inr (6, (tw_fs6 B σ k).set 8 (.int x)) := by rw [tw_E6 h]; simp [tw_fs6, tw_up_s, upd]
theorem tw_p6_9 {B k : Nat} {C : Nat → ClassId} {σ : tw_Sg} {x : Int32} (h : tw_kd k = 6) : tw_E B C (tw_up σ k 9 x) k = .inr (6, (tw_fs6 B σ k).set 9 (.int x)) := by rw [tw_E6 h]; simp [tw_fs6, tw_up_s, upd]
theorem tw_p6_10 {B k : Nat} {C : Nat → ClassId} {σ : tw_Sg} {x : Int32} (h : tw_kd k = 6) : tw_E B C (tw_up σ k 10 x) k = .inr (6, (tw_fs6 B σ k).set 10 (.int x)) := by rw [tw_E6 h]; simp [tw_fs6, tw_up_s, upd]
theorem tw_p9_2 {B k : Nat} {C : Nat → ClassId} {σ : tw_Sg} {x : Int32} (h : tw_kd k = 9) : tw_E B C (tw_up σ k 2 x) k = .inr (9, (tw_fs9 B σ k).set 2 (.int x)) := by rw [tw_E9 h]; simp [tw_fs9, tw_up_s, upd]
theorem tw_p11_6 {B k : Nat} {C : Nat → ClassId} {σ : tw_Sg} {x : Int32} (h : tw_kd k = 11) : tw_E B C (tw_up σ k 6 x) k = .inr (11, (tw_fs11 B σ k).set 6 (.int x)) := by rw [tw_E11 h]; simp [tw_fs11, tw_up_s, upd]
theorem tw_k0_0 {k : Nat} (h : tw_kd k = 0) : tw_kd (k + 1) = 13 := by exact eq_of_beq (tw_kdk (f := fun k => tw_kd (k + 1) == 13) (by decide) (by decide +kernel) h)
theorem tw_k1_1 {k : Nat} (h : tw_kd k = 1) : tw_kd (k + 1) = 7 := by exact eq_of_beq (tw_kdk (f := fun k => tw_kd (k + 1) == 7) (by decide) (by decide +kernel) h)
theorem tw_k1_2 {k : Nat} (h : tw_kd k = 1) : tw_kd (k + 3) = 7 := by exact eq_of_beq (tw_kdk (f := fun k => tw_kd (k + 3) == 7) (by decide) (by decide +kernel) h)
theorem tw_k1_3 {k : Nat} (h : tw_kd k = 1) : tw_kd (k + 5) = 7 := by exact eq_of_beq (tw_kdk (f := fun k => tw_kd (k + 5) == 7) (by decide) (by decide +kernel) h)
theorem tw_k1_4 {k : Nat} (h : tw_kd k = 1) : tw_kd (k + 7) = 7 := by exact eq_of_beq (tw_kdk (f := fun k => tw_kd (k + 7) == 7) (by decide) (by decide +kernel) h)
theorem tw_k1_5 {k : Nat} (h : tw_kd k = 1) : tw_kd (k + 9) = 7 := by exact eq_of_beq (tw_kdk (f := fun k => tw_kd (k + 9) == 7) (by decide) (by decide +kernel) h)
theorem tw_k1_6 {k : Nat} (h : tw_kd k = 1) : tw_kd (k + 11) = 7 := by exact eq_of_beq (tw_kdk (f := fun k => tw_kd (k + 11) == 7) (by decide) (by decide +kernel) h)
theorem tw_k1_7 {k : Nat} (h : tw_kd k = 1) : tw_kd (k + 13) = 7 := by exact eq_of_beq (tw_kdk (f := fun k => tw_kd (k + 13) == 7) (by decide) (by decide +kernel) h)
theorem tw_k1_8 {k : Nat} (h : tw_kd k = 1) : tw_kd (k + 15) = 7 := by exact eq_of_beq (tw_kdk (f := fun k => tw_kd (k + 15) == 7) (by decide) (by decide +kernel) h)
theorem tw_k1_9 {k : Nat} (h : tw_kd k = 1) : tw_kd (k + 17) = 7 := by exact eq_of_beq (tw_kdk (f := fun k => tw_kd (k + 17) == 7) (by decide) (by decide +kernel) h)
theorem tw_k2_2 {k : Nat} (h : tw_kd k = 2) : tw_kd (k + 1) = 0 := by exact eq_of_beq (tw_kdk (f := fun k => tw_kd (k + 1) == 0) (by decide) (by decide +kernel) h)
theorem tw_k2_3 {k : Nat} (h : tw_kd k = 2) : tw_kd (k + 3) = 0 := by exact eq_of_beq (tw_kdk (f := fun k => tw_kd (k + 3) == 0) (by decide) (by decide +kernel) h)
theorem tw_k2_4 {k : Nat} (h : tw_kd k = 2) : tw_kd (k + 5) = 7 := by exact eq_of_beq (tw_kdk (f := fun k => tw_kd (k + 5) == 7) (by decide) (by decide +kernel) h)
theorem tw_k2_6 {k : Nat} (h : tw_kd k = 2) : tw_kd (k + 7) = 7 := by exact eq_of_beq (tw_kdk (f := fun k => tw_kd (k + 7) == 7) (by decide) (by decide +kernel) h)
theorem tw_k2_7 {k : Nat} (h : tw_kd k = 2) : tw_kd (k + 9) = 7 := by exact eq_of_beq (tw_kdk (f := fun k => tw_kd (k + 9) == 7) (by decide) (by decide +kernel) h)
theorem tw_k2_8 {k : Nat} (h : tw_kd k = 2) : tw_kd (k + 11) = 7 := by exact eq_of_beq (tw_kdk (f := fun k => tw_kd (k + 11) == 7) (by decide) (by decide +kernel) h)
theorem tw_k2_9 {k : Nat} (h : tw_kd k = 2) : tw_kd (k + 13) = 1 := by exact eq_of_beq (tw_kdk (f := fun k => tw_kd (k + 13) == 1) (by decide) (by decide +kernel) h)
theorem tw_k5_0 {k : Nat} (h : tw_kd k = 5) : tw_kd (k + 3) = 15 := by exact eq_of_beq (tw_kdk (f := fun k => tw_kd (k + 3) == 15) (by decide) (by decide +kernel) h)
theorem tw_k5_1 {k : Nat} (h : tw_kd k = 5) : tw_kd (k + 1) = 0 := by exact eq_of_beq (tw_kdk (f := fun k => tw_kd (k + 1) == 0) (by decide) (by decide +kernel) h)
theorem tw_k7_0 {k : Nat} (h : tw_kd k = 7) : tw_kd (k + 1) = 13 := by exact eq_of_beq (tw_kdk (f := fun k => tw_kd (k + 1) == 13) (by decide) (by decide +kernel) h)
theorem tw_ke15 {k j : Nat} (h : tw_kd k = 15) (hj : j < tw_ln k) : tw_kd (k + 1 + 2 * j) = 0 := by
  have h1 := tw_kdk (f := fun k => (List.range (tw_ln k)).all (fun j => tw_kd (k + 1 + 2 * j) == 0)) (by decide) (by decide +kernel) h
  exact eq_of_beq (List.all_eq_true.mp h1 j (List.mem_range.mpr hj))
theorem tw_ke16 {k j : Nat} (h : tw_kd k = 16) (hj : j < tw_ln k) : tw_kd (k + 1 + 32 * j) = 2 := by
  have h1 := tw_kdk (f := fun k => (List.range (tw_ln k)).all (fun j => tw_kd (k + 1 + 32 * j) == 2)) (by decide) (by decide +kernel) h
  exact eq_of_beq (List.all_eq_true.mp h1 j (List.mem_range.mpr hj))
theorem tw_ln_lt (k : Nat) : tw_ln k < 5000 := by
  rcases Nat.lt_or_ge k 442 with h1 | h1
  · have := tw_all (p := fun k => decide (tw_ln k < 5000)) (by decide +kernel) h1
    simpa using this
  · unfold tw_ln
    rw [tw_blt h1]
    exact (by decide : (0:Nat) < 5000)
