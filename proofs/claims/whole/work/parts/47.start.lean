/-! WHAT THE PURE SIDE OWES: from the numbers that the constructors leave, for every script, the law's turns come to 1. -/
def tw_pure : Prop := ∃ (n : Nat) (σ1 σc : tw_Sg), tx_P_X2_begin n 1 (1 : Int32) (1 : Int32) tw_s0 = some σ1 ∧ (∀ q, 33 ≤ q → q < 442 → σ1 q = fun _ => 0) ∧ ty_P_X12_layMap n 444 (1 : Int32) (1 : Int32) (tw_sb (tw_up (tw_up σ1 1 10 33) 0 6 (-1))) = some σc ∧ (σc 1036 = fun _ => 0) ∧ ∀ (Ln : Nat) (xs : Nat → Int32), Ln ≤ 3072 → tw_lawL n Ln xs 514 ((0 : Int32), σc) = some (1 : Int32)
theorem whole_start_open (hpure : tw_pure) {p : Program} {e : Env} {s : State} {m : MethodId} {below : List Frame} {meth : Method} {c : Code} (l : Launch) (hflags : l.flags = flags0) {b L : Nat} {xs : Nat → Int32} (hL : L ≤ 3072) (C0 : lw_At p s m meth c b L xs) : W p l e room_1 s m #[Value.ref b] below meth c s.heap [] 0 0 (lw_Z below #[Value.ref b] s) (entryFrame m ([Value.ref b] : List Value).toArray 9) := by
  obtain ⟨n, σ1, σc, hb1, h1, hb2, hc, hlaw⟩ := hpure
  obtain ⟨hx, hb, hr, hml, hown, hts, hX, hbl, hlocks, hgv⟩ := id C0
  obtain ⟨D, C, S, hEV, hAK⟩ := tw_EV0 C0
  rw [lg_entry_eq]
  have hl := lv_entry ([.ref b]) (n := 9) (Nat.le_of_ble_eq_true rfl)
  generalize (lg_sl ([.ref b]) ++ List.replicate (9 - (lg_sl ([.ref b])).length) Slot.unset).toArray = ls at hl ⊢
  have hl : lv_has ls 9 [(0, .ref b)] := hl
  have X : tw_X (p, l, e, room_1, s, m, #[Value.ref b], below, meth, c, s.heap.size, D, C, S, 9, 0, 0, lw_Z below #[Value.ref b] s) cL_law "TreasureWalkLaw" 9 := ⟨hx, hb, hml, hown, hlocks, hEV, rfl⟩
  have hst : l.stackTraces = false := by
    simp only [Launch.stackTraces, hflags]
    decide
  have hend := tw_hend (z := (p, l, e, room_1, s, m, #[Value.ref b], below, meth, c, s.heap.size, D, C, S, 9, 0, 0, lw_Z below #[Value.ref b] s)) (b := b) (e := e) hx hb hr hlocks rfl rfl rfl rfl rfl rfl rfl rfl rfl rfl rfl rfl
  have hlp := tw_law_all (n := n) (Ln := L) (xs := xs) X hst rfl rfl hX hbl hbl hend 514 1037 46979 (Nat.le_of_ble_eq_true rfl) (Nat.le_of_ble_eq_true rfl) ((0 : Int32), σc)
  have ho := tw_open (Fx := fun _ => .inr (0, [])) X hAK rfl rfl rfl rfl hb1 h1 hb2 hc (tw_Rf.eq (hlaw L xs hL).symm hlp)
  exact ho s.heap [] ls (fun k q h => by simp [tw_wl] at h) rfl va_S.rf hl
