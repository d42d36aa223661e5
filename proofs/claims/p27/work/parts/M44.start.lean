/-! WHAT THE PURE SIDE OWES: from the numbers that the class's constructor leaves, for every script, the law's turns come to true. -/
def dw_pure : Prop := ∃ (n : Nat) (σ1 : tw_Sg), tx_P_X2_begin n 1 (1 : Int32) (1 : Int32) tw_s0 = some σ1 ∧ (∀ q, 33 ≤ q → q < 442 → σ1 q = fun _ => 0) ∧ ∀ (Ln : Nat) (xs : Nat → Int32), Ln ≤ 260 → dw_head n Ln xs (tw_up (tw_up σ1 1 10 33) 0 6 (-1)) 3 1 0 0 0
theorem whole_start_open (hpure : dw_pure) {p : Program} {e : Env} {s : State} {m : MethodId} {below : List Frame} {meth : Method} {c : Code} (l : Launch) (hflags : l.flags = flags0) {b L : Nat} {xs : Nat → Int32} (hL : L ≤ 260) (C0 : lw_At p s m meth c b L xs) : W p l e room_1 s m #[Value.ref b] below meth c s.heap [] 0 0 (lw_Z below #[Value.ref b] s) (entryFrame m ([Value.ref b] : List Value).toArray 22) := by
  obtain ⟨n, σ1, hb1, h1, hlaw⟩ := hpure
  obtain ⟨hx, hb, hr, hml, hown, hts, hX, hbl, hlocks, hgv⟩ := id C0
  obtain ⟨D, C, S, hEV, hD, hT, hA⟩ := tw_EV0 C0
  rw [lg_entry_eq]
  have hl := lv_entry ([.ref b]) (n := 22) (Nat.le_of_ble_eq_true rfl)
  generalize (lg_sl ([.ref b]) ++ List.replicate (22 - (lg_sl ([.ref b])).length) Slot.unset).toArray = ls at hl ⊢
  have hl : lv_has ls 22 [(0, .ref b)] := hl
  have X : tw_X (p, l, e, room_1, s, m, #[Value.ref b], below, meth, c, s.heap.size, D, C, S, 22, 0, 0, lw_Z below #[Value.ref b] s) cL_law "TreasureWalkLaw" 22 := ⟨hx, hb, hml, hown, hlocks, hEV, rfl⟩
  have hst : l.stackTraces = false := by
    simp only [Launch.stackTraces, hflags]
    decide
  have hend := dw_hend (z := (p, l, e, room_1, s, m, #[Value.ref b], below, meth, c, s.heap.size, D, C, S, 22, 0, 0, lw_Z below #[Value.ref b] s)) (b := b) (e := e) hx hb hr hlocks rfl rfl rfl rfl rfl rfl rfl rfl rfl rfl rfl rfl
  have hlp := dw_law (n := n) (Ln := L) (xs := xs) X hA hT (Nat.le_refl _) hD hst rfl rfl rfl rfl hX hbl hbl hb1 h1 hend 3 1 0 0 0 (hlaw L xs hL)
  have hS0 : tw_SS (p, l, e, room_1, s, m, #[Value.ref b], below, meth, c, s.heap.size, D, C, S, 22, 0, 0, lw_Z below #[Value.ref b] s) s.heap [] := va_S.rf
  show tw_W (p, l, e, room_1, s, m, #[Value.ref b], below, meth, c, s.heap.size, D, C, S, 22, 0, 0, lw_Z below #[Value.ref b] s) s.heap [] (F0 m 0 ls [])
  refine lv_iconst X.1 X.2.1 dL_law_0 (v := (1 : Int32)) (by decide) ?_
  refine lv_istore_n X.1 X.2.1 dL_law_1 rfl hl (tw_nLt X (by decide)) (lv' := [(1, .int 1), (0, .ref b)]) rfl (fun ls1 hl1 => ?_)
  refine lv_iconst X.1 X.2.1 dL_law_2 (v := (0 : Int32)) (by decide) ?_
  refine lv_istore_n X.1 X.2.1 dL_law_3 rfl hl1 (tw_nLt X (by decide)) (lv' := [(2, .int 0), (1, .int 1), (0, .ref b)]) rfl (fun ls2 hl2 => ?_)
  exact hlp s.heap [] ls2 hS0 (lv_sub hl2 [2, 1, 0] rfl)
