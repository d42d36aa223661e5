theorem ev_eq {s : State} {args : Array Value} {t t' : Term} (h : (Cond.eq t t').before args s = true) : t.eval args s none [] s = t'.eval args s none [] s := by
  simp only [Cond.before, Cond.holds, Cond.value] at h
  cases h1 : t.eval args s none [] s with
  | none => simp [h1] at h
  | some a =>
    cases h2 : t'.eval args s none [] s with
    | none => simp [h1, h2] at h
    | some a2 =>
      rw [h1, h2] at h
      cases a <;> cases a2 <;> simp_all
theorem ev_OF_uniq {o n d : String} {v v' : Value} {t : Nat} {A : Nat → Prop} {U : State} {H : Heap} (h : va_OF o n d v t A U H) (h' : va_OF o n d v' t A U H) : v = v' := by
  obtain ⟨cf, k, i, f, cell, h1, -, h3, -, h5, -⟩ := h
  obtain ⟨cf', k', i', f', cell', g1, -, g3, -, g5, -⟩ := h'
  cases h1.symm.trans g1
  cases h3.symm.trans g3
  exact Option.some.inj (h5.symm.trans g5)
theorem ev_T_uniq {t N N' : Nat} {f f' : Nat → Value} {A : Nat → Prop} {U : State} {H : Heap} (hN : N < 10) (hN' : N' < 10) (h : va_T .byte t N f A U H) (h' : va_T .byte t N' f' A U H) : N = N' ∧ ∀ j, j < N → f j = f' j := by
  obtain ⟨cell, h1, -, -, h4, h5, h6, -⟩ := h
  obtain ⟨cell', g1, -, -, g4, g5, g6, -⟩ := h'
  cases h1.symm.trans g1
  have e : Int32.ofNat N = Int32.ofNat N' := h5.symm.trans g5
  have e2 : N = N' := by
    have := congrArg Int32.toNatClampNeg e
    rwa [tw_i32n (by omega), tw_i32n (by omega)] at this
  subst e2
  exact ⟨rfl, fun j hj => Option.some.inj ((h6 j hj).symm.trans (g6 j hj))⟩
theorem ev_arr {s : State} {t : FieldType} {args : Array Value} (h : (Cond.arrayClass t).before args s = true) : ∃ c, s.vm.findClass ("[" ++ t.toString) = some c ∧ ArrOfT s c t := by
  obtain ⟨c, k, comp, h1, h2, h3⟩ := Cond.arrayClass_spec h
  exact ⟨c, h1, fun n z => ⟨fun k h => (by cases h), k, h2, comp, h3⟩⟩
theorem ev_arrA {s : State} {t : FieldType} {args : Array Value} (h : (Cond.arrayOver (.array t)).before args s = true) : ∃ c, s.vm.findClass ("[" ++ (FieldType.array t).toString) = some c ∧ ArrOfT s c (.array t) := by
  obtain ⟨comp, c, k, h1, -, h2, h3, h4⟩ := arrayOverA_spec h
  exact ⟨c, h4, fun n z => ⟨fun k h => (by cases h), k, h2, comp, h3⟩⟩
theorem ev_arrO {s : State} {C : String} {args : Array Value} (h : (Cond.arrayOver (.object C)).before args s = true) : ∃ c, va_RA s c (.object C) ∧ ArrOfT s c (.object C) := by
  obtain ⟨comp, c, k, h1, -, h2, h3, h4⟩ := Cond.arrayOver_spec h
  exact ⟨c, ⟨k, comp, h2, h3, h1, h4⟩, fun n z => ⟨fun k h => (by cases h), k, h2, comp, h3⟩⟩
theorem ev_T_cong {ty : FieldType} {t N : Nat} {f g : Nat → Value} {A : Nat → Prop} {U : State} {H : Heap} (h : va_T ty t N f A U H) (e : ∀ j, j < N → f j = g j) : va_T ty t N g A U H := by
  obtain ⟨cell, h1, h2, h3, h4, h5, h6, h7⟩ := h
  exact ⟨cell, h1, h2, h3, h4, h5, fun j hj => (e j hj) ▸ h6 j hj, h7⟩
set_option maxRecDepth 100000 in
set_option maxHeartbeats 4000000 in
theorem tw_EV0 {p : Program} {s : State} {m : MethodId} {meth : Method} {c : Code} {b L : Nat} {xs : Nat → Int32} (C0 : lw_At p s m meth c b L xs) : ∃ (D : tw_G) (C : Nat → ClassId) (S : Nat → Nat), tw_EV s.heap.size D C S s ∧ D.2 = [] ∧ tw_AK s ∧ dw_AK s.heap.size S s := by
  obtain ⟨-, -, -, -, -, hts, -, -, -, hgv⟩ := id C0
  have hg : ∀ w ∈ ev_fl, w.before #[Value.ref b] s = true := flat_of_before _ hgv
  have hA : ∀ a : Nat, a < s.heap.size → ¬ (fun q : Nat => s.heap.size ≤ q) a := fun a ha => Nat.not_le.mpr ha
  have hWs : tw_Ws s := fun w hw ho => va_Nw.of (tw_okw_on ho) (hts w hw)
  have hin : ∀ {Cn : String} {T : u_T} {N : Nat}, (∀ w ∈ u_ws Cn T N, w ∈ tw_AW) → ∀ w ∈ u_ws Cn T N, w ∈ lw_tbl := fun h w hw => (List.mem_filter.mp (h w hw)).1
  obtain ⟨d0, i0, K0⟩ := u_known (C := RX0) (T := TX0) (N := 1) (n := 1) hts (hin tw_in0) (hts _ (List.mem_of_getElem? tw_u85))
  obtain ⟨d1, i1, K1⟩ := u_known (C := RX1) (T := TX1) (N := 10) (n := 10) hts (hin tw_in1) (hts _ (List.mem_of_getElem? tw_u106))
  obtain ⟨d2, i2, K2⟩ := u_known (C := RX2) (T := TX2) (N := 14) (n := 14) hts (hin tw_in2) (hts _ (List.mem_of_getElem? tw_u79))
  obtain ⟨d3, i3, K3⟩ := u_known (C := RX3) (T := TX3) (N := 2) (n := 2) hts (hin tw_in3) (hts _ (List.mem_of_getElem? tw_u308))
  obtain ⟨d4, i4, K4⟩ := u_known (C := RX4) (T := TX4) (N := 3) (n := 3) hts (hin tw_in4) (hts _ (List.mem_of_getElem? tw_u339))
  obtain ⟨d5, i5, K5⟩ := u_known (C := RX5) (T := TX5) (N := 2) (n := 2) hts (hin tw_in5) (hts _ (List.mem_of_getElem? tw_u273))
  obtain ⟨d6, i6, K6⟩ := u_known (C := RX6) (T := TX6) (N := 11) (n := 11) hts (hin tw_in6) (hts _ (List.mem_of_getElem? tw_u359))
  obtain ⟨d7, i7, K7⟩ := u_known (C := RX7) (T := TX7) (N := 1) (n := 1) hts (hin tw_in7) (hts _ (List.mem_of_getElem? tw_u96))
  obtain ⟨d8, i8, K8⟩ := u_known (C := RX8) (T := TX8) (N := 4) (n := 4) hts (hin tw_in8) (hts _ (List.mem_of_getElem? tw_u302))
  obtain ⟨d9, i9, K9⟩ := u_known (C := RX9) (T := TX9) (N := 6) (n := 6) hts (hin tw_in9) (hts _ (List.mem_of_getElem? tw_u406))
  obtain ⟨d10, i10, K10⟩ := u_known (C := RX10) (T := TX10) (N := 4) (n := 4) hts (hin tw_in10) (hts _ (List.mem_of_getElem? tw_u265))
  obtain ⟨d11, i11, K11⟩ := u_known (C := RX11) (T := TX11) (N := 7) (n := 7) hts (hin tw_in11) (hts _ (List.mem_of_getElem? tw_u71))
  obtain ⟨d12, i12, K12⟩ := u_known (C := RX12) (T := TX12) (N := 3) (n := 3) hts (hin dw_in12) (hts _ (List.mem_of_getElem? tw_u659))
  obtain ⟨d13, i13, K13⟩ := u_known (C := RX13) (T := TX13) (N := 13) (n := 13) hts (hin dw_in13) (hts _ (List.mem_of_getElem? tw_u581))
  obtain ⟨d14, i14, K14⟩ := u_known (C := RX14) (T := TX14) (N := 4) (n := 4) hts (hin dw_in14) (hts _ (List.mem_of_getElem? tw_u1511))
  obtain ⟨d15, i15, K15⟩ := u_known (C := RX15) (T := TX15) (N := 1) (n := 1) hts (hin dw_in15) (hts _ (List.mem_of_getElem? tw_u734))
  obtain ⟨d16, i16, K16⟩ := u_known (C := RJ0) (T := TJ0) (N := 4) (n := 4) hts (hin dw_in16) (hts _ (List.mem_of_getElem? tw_u1414))
  obtain ⟨d17, i17, K17⟩ := u_known (C := RJ4) (T := TJ4) (N := 4) (n := 4) hts (hin dw_in17) (hts _ (List.mem_of_getElem? tw_u1273))
  obtain ⟨c0, n0, A0⟩ := ev_arr (hts _ (List.mem_of_getElem? tw_u94))
  obtain ⟨c1, n1, A1⟩ := ev_arr (hts _ (List.mem_of_getElem? tw_u641))
  obtain ⟨c2, n2, A2⟩ := ev_arrO (hts _ (List.mem_of_getElem? tw_u280))
  obtain ⟨c3, n3, A3⟩ := ev_arrO (hts _ (List.mem_of_getElem? tw_u345))
  obtain ⟨c4, n4, A4⟩ := ev_arrA (hts _ (List.mem_of_getElem? tw_u587))
  obtain ⟨c5, n5, A5⟩ := ev_arr (hts _ (List.mem_of_getElem? tw_u823))
  obtain ⟨c6, n6, A6⟩ := ev_arrO (hts _ (List.mem_of_getElem? tw_u665))
  obtain ⟨c7, n7, A7⟩ := ev_arrO (hts _ (List.mem_of_getElem? tw_u589))
  obtain ⟨c8, n8, A8⟩ := ev_arrO (hts _ (List.mem_of_getElem? tw_u1624))
  -- the strings
  have h1 : ∀ i, i < 44 → (Cond.exactly (ev_tm i) "java/lang/String").before #[Value.ref b] s = true := fun i hi => hg _ (ev_h1 _ (List.mem_map.mpr ⟨i, List.mem_range.mpr hi, rfl⟩))
  have h2 : ∀ i, i < 33 → ∀ w ∈ [Cond.eq (.field (ev_tm i) "java/lang/String" "coder" "B") (.int 0), .arrayOf (ev_val i) .byte, .eq (.length (ev_val i)) (.int (Int32.ofNat (tw_len.getD i 0)))], w.before #[Value.ref b] s = true := fun i hi w hw => hg _ (ev_h2 _ (List.mem_flatMap.mpr ⟨i, List.mem_range.mpr hi, hw⟩))
  have h3 : ∀ i, i < 33 → ∀ j, j < tw_len.getD i 0 → (Cond.eq (.elem (ev_val i) (.int (Int32.ofNat j))) (.int ((tw_byt.getD i []).getD j 0))).before #[Value.ref b] s = true := fun i hi j hj => hg _ (ev_h3 _ (List.mem_flatMap.mpr ⟨i, List.mem_range.mpr hi, List.mem_map.mpr ⟨j, List.mem_range.mpr hj, rfl⟩⟩))
  have hst : ∀ i : Nat, ∃ q : Nat × Nat, i < 44 → (ev_tm i).eval #[Value.ref b] s none [] s = some (.ref q.1) ∧ (i < 33 → va_O "java/lang/String" q.1 (fun q => s.heap.size ≤ q) s s.heap ∧ va_OF "java/lang/String" "coder" "B" (.int 0) q.1 (fun q => s.heap.size ≤ q) s s.heap ∧ va_OF "java/lang/String" "value" "[B" (.ref q.2) q.1 (fun q => s.heap.size ≤ q) s s.heap ∧ va_T .byte q.2 (tw_len.getD i 0) (fun j => .int ((tw_byt.getD i []).getD j 0)) (fun q => s.heap.size ≤ q) s s.heap) := by
    intro i
    by_cases hi : i < 44
    · obtain ⟨a, c, cA, kA, q1, q2, q3, q4, q5, q6, -⟩ := Cond.exactly_spec (args := #[Value.ref b]) (first := s) (o := none) (s := s) (idx := []) (t := ev_tm i) (cls := "java/lang/String") (h1 i hi)
      by_cases h33 : i < 33
      · obtain ⟨t, ht, hT⟩ := va_Tof (f := fun j => .int ((tw_byt.getD i []).getD j 0)) (A := fun q => s.heap.size ≤ q) (N := tw_len.getD i 0) (by have := ev_len i h33; omega) (h2 i h33 (.arrayOf (ev_val i) .byte) (by simp)) (va_eqt (h2 i h33 (.eq (.length (ev_val i)) (.int (Int32.ofNat (tw_len.getD i 0)))) (by simp))) (fun j hj => va_eqt (h3 i h33 j hj)) hA
        exact ⟨(a, t), fun _ => ⟨q1, fun _ => ⟨⟨cA, q3, q5, by rw [q6]; exact q2, hA a (Array.getElem?_eq_some_iff.mp q3).1⟩, vk_OFof q1 (va_eqt (h2 i h33 (.eq (.field (ev_tm i) "java/lang/String" "coder" "B") (.int 0)) (by simp))) hA, vk_OFof q1 ht hA, hT⟩⟩⟩
      · exact ⟨(a, 0), fun _ => ⟨q1, fun h => absurd h h33⟩⟩
    · exact ⟨(0, 0), fun h => absurd h hi⟩
  obtain ⟨ad, had⟩ := Classical.axiomOfChoice hst
  have ev_bear : ∀ j, j < 8 → (Term.elem (.static "TreasureWalkLaw" "BEARINGS" "[Ljava/lang/String;") (.int (Int32.ofNat j))).eval #[Value.ref b] s none [] s = some (.ref (ad (13 + j)).1) := by
    intro j hj
    match j, hj with
    | 0, _ => exact (ev_eq (hg _ (ev_h6 _ (List.mem_of_getElem? (i := 0) rfl)))).trans ((ev_eq (hg _ (ev_h5 _ (List.mem_of_getElem? (i := 4) rfl)))).symm.trans (had 13 (by omega)).1)
    | 1, _ => exact (ev_eq (hg _ (ev_h6 _ (List.mem_of_getElem? (i := 1) rfl)))).trans ((ev_eq (hg _ (ev_h5 _ (List.mem_of_getElem? (i := 5) rfl)))).symm.trans (had 14 (by omega)).1)
    | 2, _ => exact (ev_eq (hg _ (ev_h6 _ (List.mem_of_getElem? (i := 2) rfl)))).trans ((ev_eq (hg _ (ev_h5 _ (List.mem_of_getElem? (i := 6) rfl)))).symm.trans (had 15 (by omega)).1)
    | 3, _ => exact (ev_eq (hg _ (ev_h6 _ (List.mem_of_getElem? (i := 3) rfl)))).trans ((ev_eq (hg _ (ev_h5 _ (List.mem_of_getElem? (i := 7) rfl)))).symm.trans (had 16 (by omega)).1)
    | 4, _ => exact (ev_eq (hg _ (ev_h6 _ (List.mem_of_getElem? (i := 4) rfl)))).trans ((ev_eq (hg _ (ev_h5 _ (List.mem_of_getElem? (i := 8) rfl)))).symm.trans (had 17 (by omega)).1)
    | 5, _ => exact (ev_eq (hg _ (ev_h6 _ (List.mem_of_getElem? (i := 5) rfl)))).trans ((ev_eq (hg _ (ev_h5 _ (List.mem_of_getElem? (i := 9) rfl)))).symm.trans (had 18 (by omega)).1)
    | 6, _ => exact (ev_eq (hg _ (ev_h6 _ (List.mem_of_getElem? (i := 6) rfl)))).trans ((ev_eq (hg _ (ev_h5 _ (List.mem_of_getElem? (i := 10) rfl)))).symm.trans (had 19 (by omega)).1)
    | 7, _ => exact (ev_eq (hg _ (ev_h6 _ (List.mem_of_getElem? (i := 7) rfl)))).trans ((ev_eq (hg _ (ev_h5 _ (List.mem_of_getElem? (i := 11) rfl)))).symm.trans (had 20 (by omega)).1)
    | j + 8, h => exact absurd h (by omega)
  obtain ⟨tR, hR1, hR2⟩ := va_Tof (tm := .static "TreasureWalkLaw" "BEARINGS" "[Ljava/lang/String;") (ty := .object "java/lang/String") (N := 8) (f := fun j => .ref (ad (13 + j)).1) (A := fun q => s.heap.size ≤ q) (by decide) (hg _ (by decide +kernel : (.arrayOf (.static "TreasureWalkLaw" "BEARINGS" "[Ljava/lang/String;") (.object "java/lang/String") : Jvm.Cond) ∈ ev_fl)) (va_eqt (hg _ (by decide +kernel : (.eq (.length (.static "TreasureWalkLaw" "BEARINGS" "[Ljava/lang/String;")) (.int (Int32.ofNat 8)) : Jvm.Cond) ∈ ev_fl))) ev_bear hA
  obtain ⟨tO, hO1, hO2⟩ := va_Tof (tm := .static "TreasureWalk" "OFFSETS" "[I") (ty := .int) (N := 8) (f := fun j => .int (tw_off j)) (A := fun q => s.heap.size ≤ q) (by decide) (hg _ (by decide +kernel : (.arrayOf (.static "TreasureWalk" "OFFSETS" "[I") .int : Jvm.Cond) ∈ ev_fl)) (va_eqt (hg _ (by decide +kernel : (.eq (.length (.static "TreasureWalk" "OFFSETS" "[I")) (.int (Int32.ofNat 8)) : Jvm.Cond) ∈ ev_fl))) (fun j hj => va_eqt (hg _ (ev_h4 _ (List.mem_map.mpr ⟨j, List.mem_range.mpr hj, rfl⟩)))) hA
  have hS : ∀ i, i < 44 → (if i < 44 then (ad i).1 else if i = 90 then tO else if i = 91 then tR else (ad (i - 100)).2) = (ad i).1 := fun i hi => if_pos hi
  have hcl : ∀ k q, vwCl[k]? = some q → u_Kn s q.1 q.2.1 q.2.2 ([d0, d1, d2, d3, d4, d5, d6, d7, d8, d9, d10, d11, d12, d13, d14, d15, d16, d17].getD k d0) ([i0, i1, i2, i3, i4, i5, i6, i7, i8, i9, i10, i11, i12, i13, i14, i15, i16, i17].getD k i0) := by
    intro k q hq
    match k, hq with
    | 0, hq => cases hq; exact K0
    | 1, hq => cases hq; exact K1
    | 2, hq => cases hq; exact K2
    | 3, hq => cases hq; exact K3
    | 4, hq => cases hq; exact K4
    | 5, hq => cases hq; exact K5
    | 6, hq => cases hq; exact K6
    | 7, hq => cases hq; exact K7
    | 8, hq => cases hq; exact K8
    | 9, hq => cases hq; exact K9
    | 10, hq => cases hq; exact K10
    | 11, hq => cases hq; exact K11
    | 12, hq => cases hq; exact K12
    | 13, hq => cases hq; exact K13
    | 14, hq => cases hq; exact K14
    | 15, hq => cases hq; exact K15
    | 16, hq => cases hq; exact K16
    | 17, hq => cases hq; exact K17
    | k + 18, hq => simp [vwCl] at hq
  refine ⟨((fun k => [d0, d1, d2, d3, d4, d5, d6, d7, d8, d9, d10, d11, d12, d13, d14, d15, d16, d17].getD k d0, fun k => [i0, i1, i2, i3, i4, i5, i6, i7, i8, i9, i10, i11, i12, i13, i14, i15, i16, i17].getD k i0), []), fun k => [c0, c1, c2, c3, c4, c5, c6, c7, c8].getD k c0, fun i => if i < 44 then (ad i).1 else if i = 90 then tO else if i = 91 then tR else (ad (i - 100)).2, ⟨hWs, ⟨hcl, ?_⟩, ⟨?_, ?_⟩, ?_, ?_, ⟨?_, ?_⟩, ⟨?_, ?_⟩, ?_, ?_, ⟨fun _ _ _ _ h => by simp at h, fun _ _ h => by simp at h⟩⟩, rfl, ?_, ?_⟩
  · intro k q hq
    match k, hq with
    | 0, hq => cases hq; exact ⟨A0, n0⟩
    | 1, hq => cases hq; exact ⟨A1, n1⟩
    | 2, hq => cases hq; exact ⟨A2, n2⟩
    | 3, hq => cases hq; exact ⟨A3, n3⟩
    | 4, hq => cases hq; exact ⟨A4, n4⟩
    | 5, hq => cases hq; exact ⟨A5, n5⟩
    | 6, hq => cases hq; exact ⟨A6, n6⟩
    | 7, hq => cases hq; exact ⟨A7, n7⟩
    | 8, hq => cases hq; exact ⟨A8, n8⟩
    | k + 9, hq => simp [tw_tys] at hq
  · exact va_Zref (hts _ (List.mem_of_getElem? tw_u579)) (hts _ (List.mem_of_getElem? tw_u36)) hO1 hA
  · exact hO2
  · refine ⟨fun i hi => ?_, fun i j hi hj e => ?_⟩
    · have h := (had i (by omega)).2 hi
      show va_O _ (if i < 44 then _ else _) _ _ _ ∧ va_OF _ _ _ _ (if i < 44 then _ else _) _ _ _ ∧ va_OF _ _ _ (.ref (if 100 + i < 44 then _ else if 100 + i = 90 then _ else if 100 + i = 91 then _ else _)) (if i < 44 then _ else _) _ _ _ ∧ va_T _ (if 100 + i < 44 then _ else if 100 + i = 90 then _ else if 100 + i = 91 then _ else _) _ _ _ _ _
      rw [if_pos (show i < 44 by omega), if_neg (show ¬ 100 + i < 44 by omega), if_neg (show ¬ 100 + i = 90 by omega), if_neg (show ¬ 100 + i = 91 by omega), show 100 + i - 100 = i from by omega]
      exact h
    · have e1 : (ad i).1 = (ad j).1 := by
        have := e
        simp only [] at this
        rwa [if_pos (show i < 44 by omega), if_pos (show j < 44 by omega)] at this
      by_cases hij : i = j
      · exact hij
      · exfalso
        have a1 := (had i (by omega)).2 hi
        have a2 := (had j (by omega)).2 hj
        rw [← e1] at a2
        have e2 : (ad i).2 = (ad j).2 := by
          have := ev_OF_uniq a1.2.2.1 a2.2.2.1
          injection this
        have a4 := a2.2.2.2
        rw [← e2] at a4
        obtain ⟨t1, t2⟩ := ev_T_uniq (ev_len i hi) (ev_len j hj) a1.2.2.2 a4
        rcases ev_apart i hi j hj hij with h | ⟨k, k1, k2⟩
        · exact h t1
        · have := t2 k k1
          simp only [Value.int.injEq] at this
          exact k2 this
  · intro q hq
    have hsr : ∀ j, j < 44 → ∀ (own : String) (k : Nat), (ev_tm j).eval #[Value.ref b] s none [] s = (Term.string own k).eval #[Value.ref b] s none [] s → (Term.string own k).eval #[] s none [] s = some (.ref (if j < 44 then (ad j).1 else if j = 90 then tO else (ad (j - 100)).2)) := by
      intro j hj own k h
      rw [if_pos hj, ← (had j hj).1, h]
      rfl
    simp only [tw_ldc, List.mem_cons, List.not_mem_nil, or_false] at hq
    rcases hq with rfl | rfl | rfl | rfl | rfl | rfl | rfl | rfl | rfl | rfl | rfl | rfl | rfl | rfl | rfl | rfl | rfl | rfl | rfl | rfl | rfl | rfl | rfl | rfl | rfl | rfl | rfl | rfl | rfl | rfl | rfl | rfl | rfl | rfl | rfl | rfl | rfl | rfl | rfl | rfl | rfl | rfl | rfl | rfl | rfl | rfl | rfl | rfl | rfl | rfl | rfl | rfl | rfl | rfl | rfl | rfl
    · exact ⟨(hts _ (List.mem_of_getElem? tw_u797)), hsr 33 (by decide) _ _ rfl⟩
    · exact ⟨(hts _ (List.mem_of_getElem? tw_u1569)), hsr 34 (by decide) _ _ rfl⟩
    · exact ⟨(hts _ (List.mem_of_getElem? tw_u1062)), hsr 35 (by decide) _ _ rfl⟩
    · exact ⟨(hts _ (List.mem_of_getElem? tw_u1579)), hsr 36 (by decide) _ _ rfl⟩
    · exact ⟨(hts _ (List.mem_of_getElem? tw_u1085)), hsr 37 (by decide) _ _ rfl⟩
    · exact ⟨(hts _ (List.mem_of_getElem? tw_u1099)), hsr 38 (by decide) _ _ rfl⟩
    · exact ⟨(hts _ (List.mem_of_getElem? tw_u1224)), hsr 39 (by decide) _ _ rfl⟩
    · exact ⟨(hts _ (List.mem_of_getElem? tw_u1233)), hsr 40 (by decide) _ _ rfl⟩
    · exact ⟨(hts _ (List.mem_of_getElem? tw_u1234)), hsr 41 (by decide) _ _ rfl⟩
    · exact ⟨(hts _ (List.mem_of_getElem? tw_u1055)), hsr 42 (by decide) _ _ rfl⟩
    · exact ⟨(hts _ (List.mem_of_getElem? tw_u1083)), hsr 43 (by decide) _ _ rfl⟩
    · exact ⟨(hts _ (List.mem_of_getElem? tw_u911)), hsr 0 (by decide) _ _ rfl⟩
    · exact ⟨(hts _ (List.mem_of_getElem? tw_u946)), hsr 1 (by decide) _ _ rfl⟩
    · exact ⟨(hts _ (List.mem_of_getElem? tw_u958)), hsr 2 (by decide) _ _ rfl⟩
    · exact ⟨(hts _ (List.mem_of_getElem? tw_u973)), hsr 3 (by decide) _ _ rfl⟩
    · exact ⟨(hts _ (List.mem_of_getElem? tw_u978)), hsr 4 (by decide) _ _ rfl⟩
    · exact ⟨(hts _ (List.mem_of_getElem? tw_u840)), hsr 5 (by decide) _ _ rfl⟩
    · exact ⟨(hts _ (List.mem_of_getElem? tw_u951)), hsr 6 (by decide) _ _ rfl⟩
    · exact ⟨(hts _ (List.mem_of_getElem? tw_u952)), hsr 7 (by decide) _ _ rfl⟩
    · exact ⟨(hts _ (List.mem_of_getElem? tw_u1001)), hsr 8 (by decide) _ _ rfl⟩
    · exact ⟨(hts _ (List.mem_of_getElem? tw_u1006)), hsr 9 (by decide) _ _ rfl⟩
    · exact ⟨(hts _ (List.mem_of_getElem? tw_u1007)), hsr 10 (by decide) _ _ rfl⟩
    · exact ⟨(hts _ (List.mem_of_getElem? tw_u1008)), hsr 11 (by decide) _ _ rfl⟩
    · exact ⟨(hts _ (List.mem_of_getElem? tw_u1025)), hsr 12 (by decide) _ _ rfl⟩
    · exact ⟨(hts _ (List.mem_of_getElem? tw_u1017)), hsr 13 (by decide) _ _ rfl⟩
    · exact ⟨(hts _ (List.mem_of_getElem? tw_u1018)), hsr 14 (by decide) _ _ rfl⟩
    · exact ⟨(hts _ (List.mem_of_getElem? tw_u1019)), hsr 15 (by decide) _ _ rfl⟩
    · exact ⟨(hts _ (List.mem_of_getElem? tw_u1020)), hsr 16 (by decide) _ _ rfl⟩
    · exact ⟨(hts _ (List.mem_of_getElem? tw_u1021)), hsr 17 (by decide) _ _ rfl⟩
    · exact ⟨(hts _ (List.mem_of_getElem? tw_u1022)), hsr 18 (by decide) _ _ rfl⟩
    · exact ⟨(hts _ (List.mem_of_getElem? tw_u1023)), hsr 19 (by decide) _ _ rfl⟩
    · exact ⟨(hts _ (List.mem_of_getElem? tw_u1024)), hsr 20 (by decide) _ _ rfl⟩
    · exact ⟨(hts _ (List.mem_of_getElem? tw_u1261)), hsr 21 (by decide) _ _ rfl⟩
    · exact ⟨(hts _ (List.mem_of_getElem? tw_u1504)), hsr 22 (by decide) _ _ rfl⟩
    · exact ⟨(hts _ (List.mem_of_getElem? tw_u1508)), hsr 23 (by decide) _ _ rfl⟩
    · exact ⟨(hts _ (List.mem_of_getElem? tw_u1509)), hsr 24 (by decide) _ _ rfl⟩
    · exact ⟨(hts _ (List.mem_of_getElem? tw_u1533)), hsr 25 (by decide) _ _ rfl⟩
    · exact ⟨(hts _ (List.mem_of_getElem? tw_u1534)), hsr 26 (by decide) _ _ rfl⟩
    · exact ⟨(hts _ (List.mem_of_getElem? tw_u1535)), hsr 27 (by decide) _ _ rfl⟩
    · exact ⟨(hts _ (List.mem_of_getElem? tw_u1538)), hsr 28 (by decide) _ _ rfl⟩
    · exact ⟨(hts _ (List.mem_of_getElem? tw_u1265)), hsr 29 (by decide) _ _ rfl⟩
    · exact ⟨(hts _ (List.mem_of_getElem? tw_u1238)), hsr 5 (by decide) _ _ (ev_eq (hg _ (ev_h5 _ (List.mem_of_getElem? (i := 0) rfl))))⟩
    · exact ⟨(hts _ (List.mem_of_getElem? tw_u1266)), hsr 0 (by decide) _ _ (ev_eq (hg _ (ev_h5 _ (List.mem_of_getElem? (i := 1) rfl))))⟩
    · exact ⟨(hts _ (List.mem_of_getElem? tw_u1268)), hsr 1 (by decide) _ _ (ev_eq (hg _ (ev_h5 _ (List.mem_of_getElem? (i := 2) rfl))))⟩
    · exact ⟨(hts _ (List.mem_of_getElem? tw_u1269)), hsr 30 (by decide) _ _ rfl⟩
    · exact ⟨(hts _ (List.mem_of_getElem? tw_u1270)), hsr 31 (by decide) _ _ rfl⟩
    · exact ⟨(hts _ (List.mem_of_getElem? tw_u1302)), hsr 32 (by decide) _ _ rfl⟩
    · exact ⟨(hts _ (List.mem_of_getElem? tw_u1498)), hsr 3 (by decide) _ _ (ev_eq (hg _ (ev_h5 _ (List.mem_of_getElem? (i := 3) rfl))))⟩
    · exact ⟨(hts _ (List.mem_of_getElem? tw_u1657)), hsr 13 (by decide) _ _ (ev_eq (hg _ (ev_h5 _ (List.mem_of_getElem? (i := 4) rfl))))⟩
    · exact ⟨(hts _ (List.mem_of_getElem? tw_u1658)), hsr 14 (by decide) _ _ (ev_eq (hg _ (ev_h5 _ (List.mem_of_getElem? (i := 5) rfl))))⟩
    · exact ⟨(hts _ (List.mem_of_getElem? tw_u1659)), hsr 15 (by decide) _ _ (ev_eq (hg _ (ev_h5 _ (List.mem_of_getElem? (i := 6) rfl))))⟩
    · exact ⟨(hts _ (List.mem_of_getElem? tw_u1660)), hsr 16 (by decide) _ _ (ev_eq (hg _ (ev_h5 _ (List.mem_of_getElem? (i := 7) rfl))))⟩
    · exact ⟨(hts _ (List.mem_of_getElem? tw_u1661)), hsr 17 (by decide) _ _ (ev_eq (hg _ (ev_h5 _ (List.mem_of_getElem? (i := 8) rfl))))⟩
    · exact ⟨(hts _ (List.mem_of_getElem? tw_u1662)), hsr 18 (by decide) _ _ (ev_eq (hg _ (ev_h5 _ (List.mem_of_getElem? (i := 9) rfl))))⟩
    · exact ⟨(hts _ (List.mem_of_getElem? tw_u1663)), hsr 19 (by decide) _ _ (ev_eq (hg _ (ev_h5 _ (List.mem_of_getElem? (i := 10) rfl))))⟩
    · exact ⟨(hts _ (List.mem_of_getElem? tw_u1664)), hsr 20 (by decide) _ _ (ev_eq (hg _ (ev_h5 _ (List.mem_of_getElem? (i := 11) rfl))))⟩
  · exact vx_Zqof (hts _ (List.mem_of_getElem? tw_u783)) (hts _ (List.mem_of_getElem? tw_u55)) (hg _ (by decide +kernel : (.isRef (.static "java/lang/Throwable" "UNASSIGNED_STACK" "[Ljava/lang/StackTraceElement;") : Jvm.Cond) ∈ ev_fl)) hA
  · exact vx_Zqof (hts _ (List.mem_of_getElem? tw_u785)) (hts _ (List.mem_of_getElem? tw_u55)) (hg _ (by decide +kernel : (.isRef (.static "java/lang/Throwable" "SUPPRESSED_SENTINEL" "Ljava/util/List;") : Jvm.Cond) ∈ ev_fl)) hA
  · exact va_Nc.of (hg _ (by decide +kernel : (.not (.castable "java/lang/IllegalArgumentException" "java/lang/IndexOutOfBoundsException") : Jvm.Cond) ∈ ev_fl))
  · exact va_Nc.of (hg _ (by decide +kernel : (.not (.castable "java/util/NoSuchElementException" "java/lang/IndexOutOfBoundsException") : Jvm.Cond) ∈ ev_fl))
  · exact va_Zof (hts _ (List.mem_of_getElem? tw_u858)) (hts _ (List.mem_of_getElem? tw_u60)) (va_eqt (hg _ (by decide +kernel : (.eq (.static "java/lang/String" "COMPACT_STRINGS" "Z") (.int 1) : Jvm.Cond) ∈ ev_fl))) hA
  · exact va_Zqof (hts _ (List.mem_of_getElem? tw_u874)) (hts _ (List.mem_of_getElem? tw_u62)) (hg _ (by decide +kernel : (.isRef (.static "jdk/internal/util/Preconditions" "SIOOBE_FORMATTER" "Ljava/util/function/BiFunction;") : Jvm.Cond) ∈ ev_fl)) hA
  · exact ⟨⟨(hts _ (List.mem_of_getElem? tw_u94)), (hts _ (List.mem_of_getElem? tw_u641))⟩, va_AO.of (hts _ (List.mem_of_getElem? tw_u280)), va_AO.of (hts _ (List.mem_of_getElem? tw_u345)), trivial⟩
  · refine ⟨⟨(hts _ (List.mem_of_getElem? tw_u94)), (hts _ (List.mem_of_getElem? tw_u641)), (hts _ (List.mem_of_getElem? tw_u823))⟩, ⟨va_AO.of (hts _ (List.mem_of_getElem? tw_u665)), va_AO.of (hts _ (List.mem_of_getElem? tw_u589)), va_AO.of (hts _ (List.mem_of_getElem? tw_u1624))⟩, ⟨dw_AOA.of (hts _ (List.mem_of_getElem? tw_u587)), (hts _ (List.mem_of_getElem? tw_u587))⟩, ⟨va_Zref (hts _ (List.mem_of_getElem? tw_u1537)) (hts _ (List.mem_of_getElem? tw_u35)) hR1 hA, ev_T_cong hR2 (fun j hj => by show Value.ref (ad (13 + j)).1 = Value.ref (if 13 + j < 44 then _ else _); rw [if_pos (by omega)])⟩, va_Nw.of rfl (hts _ (List.mem_of_getElem? tw_u658)), va_Nw.of rfl (hts _ (List.mem_of_getElem? tw_u653)), va_Nw.of rfl (hts _ (List.mem_of_getElem? tw_u1337)), ?_⟩
    intro y hy
    simp only [dw_pvN, List.mem_cons, List.not_mem_nil, or_false] at hy
    rcases hy with rfl | rfl | rfl
    · exact dw_selP (args := #[Value.ref b]) (yL := ⟨"java/lang/AbstractStringBuilder", "isLatin1", "()Z"⟩) rfl (by decide) (hts _ (List.mem_of_getElem? tw_u1273)) (hts _ (List.mem_of_getElem? tw_u1315)) (hts _ (List.mem_of_getElem? tw_u1316)) (hts _ (List.mem_of_getElem? tw_u1342)) (hts _ (List.mem_of_getElem? tw_u1344))
    · exact dw_selP (args := #[Value.ref b]) (yL := ⟨"java/lang/AbstractStringBuilder", "isLatin1", "()Z"⟩) rfl (by decide) (hts _ (List.mem_of_getElem? tw_u1273)) (hts _ (List.mem_of_getElem? tw_u1367)) (hts _ (List.mem_of_getElem? tw_u1368)) (hts _ (List.mem_of_getElem? tw_u1342)) (hts _ (List.mem_of_getElem? tw_u1344))
    · exact dw_selP (args := #[Value.ref b]) (yL := ⟨"java/lang/AbstractStringBuilder", "isLatin1", "()Z"⟩) rfl (by decide) (hts _ (List.mem_of_getElem? tw_u1273)) (hts _ (List.mem_of_getElem? tw_u1363)) (hts _ (List.mem_of_getElem? tw_u1364)) (hts _ (List.mem_of_getElem? tw_u1342)) (hts _ (List.mem_of_getElem? tw_u1344))
