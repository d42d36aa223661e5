/-! one turn of the law whole -/
section DQTB
variable {Y Y' Y'' : dw_S} {w h nb nc m n u i0 th r bf q38 d c s cn len N w0 h0 nb0 nc0 cn0 Ln c0 s0 : Nat} {κ : Nat → Nat} {a a' a0 : Nat → Int32} {hist hist0 : Nat → Nat → Int32} {buf : Nat → Nat} {err err0 x1 x2 : Int32} {xs : Nat → Int32}
theorem dq_la {x y z : Nat} (h : x + y ≤ z) : x ≤ z := Nat.le_trans (Nat.le_add_right _ _) h
theorem dq_odig1 : pu_oDig (pu_a0 1 1) = 1 := by decide +kernel
theorem dq_odig0 : pu_oDig (pu_aDig (pu_a0 1 1)) = 0 := by decide +kernel
theorem dq_push_s (h : cn < 8) : pu_push cn hist a cn = a := by unfold pu_push; rw [if_pos h, if_pos rfl]
theorem dq_push_l {i : Nat} (h : cn < 8) (hi : i ≠ cn) : pu_push cn hist a i = hist i := by unfold pu_push; rw [if_pos h, if_neg hi]
theorem dq_hideX : pu_hideOf (10000 : Int32) = none := by decide +kernel
set_option maxHeartbeats 1000000 in
theorem dq_lwA_ok {Jk : Int32 × dw_S × Nat × Nat → Prop} (J : pu_IC (dw_s Y) 1 1 0 0 (pu_a0 1 1) 0 hist 0 buf (-1)) (hn : 1000 < n) (hc : c + 1 + 1 + 1 + 1 ≤ dw_rc) (hs : s + 6 + 6 + 6 + 6 ≤ dw_rs) (hJ : ∀ s1 hist', pu_IC s1 1 1 0 0 (pu_a0 1 1) 0 hist' 0 buf (-1) → Jk (1, dw_cs Y s1, c + 1 + 1 + 1 + 1, s + 6 + 6 + 6 + 6)) : dq_lwA n 1 Y c s Jk := by
  have c3 := dq_la hc
  have c2 := dq_la c3
  have c1 := dq_la c2
  have c0 := dq_la c1
  have s3 := dq_la hs
  have s2 := dq_la s3
  have s1 := dq_la s2
  have s0 := dq_la s1
  have J0 : ∀ s1, s1 = dw_s Y → pu_IC s1 1 1 0 0 (pu_a0 1 1) 0 hist 0 buf (-1) := fun s1 e => by rw [e]; exact J
  unfold dq_lwA
  refine dq_jn (fun _ => False) (fun _ z => z.elim) (fun f _ => dq_iff (by decide) (dq_ck ⟨c0, s0⟩ (dq_bd (pu_cerr J) (dq_iff (fun z => z rfl) (dq_ck ⟨c0, s0⟩ ?_)))))
  obtain ⟨⟨v1, t1⟩, e1, h1, h2⟩ := pu_cundo0 (n := n) J
  dsimp only [] at h1 h2
  subst h1 h2
  refine dq_bd e1 (dq_iff (fun z => z rfl) (dq_ck ⟨c1, s1⟩ ?_))
  refine dq_qturn1 (J0 _ rfl) hn (dq_clueX (fun z => absurd z.2 (by decide))) (dq_iff (fun z => z rfl) (dq_ck ⟨c2, s2⟩ ?_))
  refine dq_quseX (J0 _ rfl) hn (dq_clueX (fun z => absurd z.2 (by decide))) (dq_iff (fun z => z rfl) (dq_ck ⟨c3, s3⟩ ?_))
  refine dq_qhideX (J0 _ rfl) hn dq_hideX (dq_iff (fun z => z rfl) (dq_ck ⟨hc, hs⟩ ?_))
  refine dq_qmoveX (J0 _ rfl) hn (dq_cellX (fun z => absurd z.2.2.2 (by decide))) (dq_iff (fun z => z rfl) (dq_ck ⟨hc, hs⟩ ?_))
  obtain ⟨⟨v2, t2⟩, e2, h2, J2, -⟩ := pu_cdig J
  dsimp only [] at h2 J2
  rw [dq_odig1] at h2
  subst h2
  refine dq_bd e2 (dq_iff (fun z => z rfl) (dq_ck ⟨hc, hs⟩ ?_))
  have J2 : pu_IC t2 1 1 0 0 (pu_aDig (pu_a0 1 1)) 1 (pu_push 0 hist (pu_a0 1 1)) 0 buf (-1) := J2
  obtain ⟨⟨v3, t3⟩, e3, h3, J3, -⟩ := pu_cdig J2
  dsimp only [] at h3 J3
  rw [dq_odig0] at h3
  subst h3
  refine dq_bd e3 (dq_iff (fun z => z rfl) (dq_ck ⟨hc, hs⟩ ?_))
  have J3 : pu_IC t3 1 1 0 0 (pu_aDig (pu_aDig (pu_a0 1 1))) (1 + 1) (pu_push 1 (pu_push 0 hist (pu_a0 1 1)) (pu_aDig (pu_a0 1 1))) 0 buf (-1) := J3
  obtain ⟨⟨v4, t4⟩, e4, h4, J4, -⟩ := pu_cundo (n := n) J3 hn
  dsimp only [] at h4 J4
  rw [dq_push_s (by omega)] at J4
  obtain ⟨p0, p1, p2, p3⟩ := dq_WF_v J2.1
  rw [p0, p1, p2, p3] at J4
  subst h4
  refine dq_bd e4 (dq_iff (fun z => z rfl) (dq_ck ⟨hc, hs⟩ ?_))
  have J4 : pu_IC t4 1 1 0 0 (pu_aDig (pu_a0 1 1)) (0 + 1) (pu_push 1 (pu_push 0 hist (pu_a0 1 1)) (pu_aDig (pu_a0 1 1))) 0 buf (-1) := J4
  obtain ⟨⟨v5, t5⟩, e5, h5, J5, -⟩ := pu_cundo (n := n) J4 hn
  dsimp only [] at h5 J5
  rw [dq_push_l (by omega) (by omega), dq_push_s (by omega)] at J5
  obtain ⟨p0, p1, p2, p3⟩ := dq_WF_v J.1
  rw [p0, p1, p2, p3] at J5
  subst h5
  exact dq_bd e5 (dq_iff (fun z => z rfl) (hJ t5 _ J5))
set_option maxHeartbeats 1000000 in
theorem dq_lwB_ok {j4 : Int32 × Int32 × dw_S × Nat × Nat → Prop} (C : dq_RC Y bf r n) (X : dq_TX bf w0 h0 nb0 nc0 a0 0 hist0 err0 [] Y) (hn : 700000 < n) (hc : c + 300 + 1457 + 1 + 1575 * 14 + (1457 * 8 + 7) ≤ dw_rc) (hs : s + 2600 + 117018 + 9 + 125700 * 14 + (117018 * 8 + 42) ≤ dw_rs) (hj : ∀ Y' c' s', c' ≤ c + 300 + 1457 + 1 + 1575 * 14 + (1457 * 8 + 7) → s' ≤ s + 2600 + 117018 + 9 + 125700 * 14 + (117018 * 8 + 42) → j4 (1, x2 + (1 : Int32), Y', c', s')) : dq_lwB n bf r x2 1 Y c s j4 := by
  have c2 := dq_la (dq_la (dq_la hc))
  have c1 := dq_la c2
  have s2 := dq_la (dq_la (dq_la hs))
  have s1 := dq_la s2
  unfold dq_lwB
  refine dq_lt (dq_ck ⟨c1, s1⟩ ?_)
  refine dq_risland C X (fun th w h nb NC A κ Y1 buf D hnb hNC W I S J ht f => dq_mt (fun e => by cases e) (fun x ex => ?_))
  cases ex
  have hr1 : dw_is Y1 r 15 := dq_is_wx W C.1
  have h41 : 442 ≤ dw_n Y1 := Nat.le_trans C.2.2.2.1 (dq_wx_n W)
  refine dq_jn (fun a => a.1 = 1 ∧ a.2.2.1 = c + 300 + 1457 ∧ a.2.2.2 = s + 2600 + 117018 ∧ dw_is a.2.1 r 15 ∧ 442 ≤ dw_n a.2.1 ∧ dq_I a.2.1 th κ A w h nb NC ∧ pu_IC (dw_s a.2.1) w h nb NC A (min (0 + 1) 8) (pu_push 0 hist0 a0) 0 buf (-1)) (fun a ha => ?_) (fun g hg => ?_)
  · obtain ⟨a1, Ya, ca, sa⟩ := a
    obtain ⟨g1, g2, g3, g4, g5, g6, g7⟩ := ha
    dsimp only [] at g1 g2 g3 g4 g5 g6 g7
    subst g1 g2 g3
    exact dq_lwC_ok g4 D hnb g6 S g7 f ht C.1.1 g5 hn hc hs hj
  · refine dq_jn (fun _ => False) (fun _ z => z.elim) (fun f2 _ => dq_iff (by decide) (dq_ck ⟨c2, s2⟩ ?_))
    refine dq_agrees S I J hn (fun Y2 A2 => dq_iff (fun z => absurd (show (1 : Int32) = 0 from z) (by decide)) (hg _ ⟨rfl, rfl, rfl, ?_, ?_, dq_I_useC A2.1 I, A2.2⟩))
    · have F : dq_use th κ Y1 (dw_cs Y2 (dw_s Y1)) := A2.1
      exact (dq_is_fr F hr1 : dw_is (dw_cs Y2 (dw_s Y1)) r 15)
    · have F : dq_use th κ Y1 (dw_cs Y2 (dw_s Y1)) := A2.1
      exact Nat.le_trans h41 F.2.1
theorem dq_rinit {Q : dw_S → Prop} {v : Int32} (h : dw_is Y th 15) (k : Q (dw_pi Y th 0 v)) : dw_P_X15_init th v Y Q := ⟨h, k⟩
theorem dq_sm0 : dq_sm (pu_a0 1 1) 1 1 0 := ⟨by decide, by decide, fun q hq => absurd hq (Nat.not_lt_zero _)⟩
set_option maxHeartbeats 2000000 in
theorem dq_lawB_ok {j4 : Int32 × Int32 × dw_S × Nat × Nat → Prop} (J : pu_IC (dw_s Y) 1 1 0 0 (pu_a0 1 1) 0 hist 0 buf (-1)) (h4 : 442 ≤ dw_n Y) (hx2 : tw_ok x2 Ln = true) (hn : 700000 < n) (hc : c0 + 1 + 1 + 1 + 6 + 1457 + 1 + 1 + 1 + 1 + 300 + 1457 + 1 + 1575 * 14 + (1457 * 8 + 7) ≤ dw_rc) (hs : s0 + 8 + 1 + 13 + 19 + 117018 + 6 + 6 + 6 + 6 + 2600 + 117018 + 9 + 125700 * 14 + (117018 * 8 + 42) ≤ dw_rs) (hj : ∀ Y' c' s', c' ≤ c0 + 1 + 1 + 1 + 6 + 1457 + 1 + 1 + 1 + 1 + 300 + 1457 + 1 + 1575 * 14 + (1457 * 8 + 7) → s' ≤ s0 + 8 + 1 + 13 + 19 + 117018 + 6 + 6 + 6 + 6 + 2600 + 117018 + 9 + 125700 * 14 + (117018 * 8 + 42) → j4 (1, x2 + (1 : Int32), Y', c', s')) : dw_P_L_lawB n Ln xs x1 x2 c0 s0 Y j4 := by
  have cA := dq_la (dq_la (dq_la (dq_la (dq_la hc))))
  have c9 := dq_la (dq_la (dq_la (dq_la cA)))
  have c8 := dq_la c9
  have c3 := dq_la c8
  have c2 := dq_la c3
  have c1 := dq_la c2
  have sA := dq_la (dq_la (dq_la (dq_la (dq_la hs))))
  have s9 := dq_la (dq_la (dq_la (dq_la sA)))
  have s8 := dq_la s9
  have s3 := dq_la s8
  have s2 := dq_la s3
  have s1 := dq_la s2
  have t0 : Int32.toNatClampNeg (0 : Int32) = 0 := rfl
  have t4 : Int32.toNatClampNeg (4 : Int32) = 4 := rfl
  have t8 : Int32.toNatClampNeg (8 : Int32) = 8 := rfl
  have t9 : Int32.toNatClampNeg (9 : Int32) = 9 := rfl
  unfold dw_P_L_lawB
  simp only [t0, t4, t8, t9]
  clear t0 t4 t8 t9
  refine dq_ck ⟨⟨by decide, by decide⟩, c1, s1⟩ (fun bf hbf => dq_lt ?_)
  have F1 : dq_fr dq_no dq_no Y (dw_nw Y bf 20 8 (fun _ => 0) (fun _ => none)) := dq_fr_nw dq_fr_refl hbf
  have B1 : dq_A1 (dw_nw Y bf 20 8 (fun _ => 0) (fun _ => none)) bf 20 8 := dq_A1_new h4 hbf
  have z1 : ∀ j, dw_i (dw_nw Y bf 20 8 (fun _ => 0) (fun _ => none)) bf j = 0 := fun j => dq_i_nw_s
  generalize dw_nw Y bf 20 8 (fun _ => 0) (fun _ => none) = Y1 at F1 B1 z1 ⊢
  have J1 : pu_IC (dw_s Y1) 1 1 0 0 (pu_a0 1 1) 0 hist 0 buf (-1) := by rw [F1.1]; exact J
  have n1 : 442 ≤ dw_n Y1 := Nat.le_trans h4 F1.2.1
  clear F1
  refine dq_ck ⟨c2, s2⟩ (fun r hr => dq_lt ?_)
  have F2 : dq_fr dq_no dq_no Y1 (dw_nw Y1 r 15 0 (fun _ => 0) (fun _ => none)) := dq_fr_nw dq_fr_refl hr
  have r2 : dw_is (dw_nw Y1 r 15 0 (fun _ => 0) (fun _ => none)) r 15 := dq_is_new n1 hr
  have hrb : r ≠ bf := by have := B1.1.1; have hr : dw_n Y1 ≤ r := hr; omega
  have z2 : ∀ j, dw_i (dw_nw Y1 r 15 0 (fun _ => 0) (fun _ => none)) bf j = 0 := fun j => (dq_i_nw_n (fun e => hrb e.symm)).trans (z1 j)
  generalize dw_nw Y1 r 15 0 (fun _ => 0) (fun _ => none) = Y2 at F2 r2 z2 ⊢
  have J2 : pu_IC (dw_s Y2) 1 1 0 0 (pu_a0 1 1) 0 hist 0 buf (-1) := by rw [F2.1]; exact J1
  have n2 : 442 ≤ dw_n Y2 := Nat.le_trans n1 F2.2.1
  have B2 : dq_A1 Y2 bf 20 8 := dq_A1_fr F2 B1
  clear F2 J1 n1 B1 z1
  refine dq_ck hx2 (dq_ck ⟨c2, s2⟩ (dq_rinit r2 ?_))
  generalize xs (Int32.toNatClampNeg x2) = v
  have F3 : dq_fr (fun k _ => k = r) dq_no Y2 (dw_pi Y2 r 0 v) := dq_fr_pi dq_fr_refl (fun _ => rfl)
  have r3 : dw_is (dw_pi Y2 r 0 v) r 15 := dq_is_fr F3 r2
  have z3 : ∀ j, dw_i (dw_pi Y2 r 0 v) bf j = 0 := fun j => (dq_i_pi_k (fun e => hrb e.symm)).trans (z2 j)
  generalize dw_pi Y2 r 0 v = Y3 at F3 r3 z3 ⊢
  have J3 : pu_IC (dw_s Y3) 1 1 0 0 (pu_a0 1 1) 0 hist 0 buf (-1) := by rw [F3.1]; exact J2
  have n3 : 442 ≤ dw_n Y3 := Nat.le_trans n2 F3.2.1
  have B3 : dq_A1 Y3 bf 20 8 := dq_A1_fr F3 B2
  clear F3 J2 n2 B2 z2 r2
  refine dq_ck ⟨c3, s3⟩ (fun th hth => dq_lt (dq_ck ⟨c8, s8⟩ ?_))
  have F4 : dq_fr dq_no dq_no Y3 (dw_nw Y3 th 13 0 (fun _ => 0) (fun _ => none)) := dq_fr_nw dq_fr_refl hth
  have hth : dw_n Y3 ≤ th := hth
  have hbl := B3.1.1
  have hrl := r3.1
  refine dq_init (dq_is_new n3 hth) (fun j => dq_i_nw_s) (fun Y5 ι I F5 hι => ?_)
  have h5 : th + 1 ≤ ι 5 := hι 5 (by omega)
  have B4 := dq_A1_fr F4 B3
  have r4 := dq_is_fr F4 r3
  have r5 := dq_is_fr F5 r4
  have B5 := dq_A1_fr F5 B4
  have z4 : ∀ j, dw_i (dw_nw Y3 th 13 0 (fun _ => 0) (fun _ => none)) bf j = 0 := fun j => (dq_i_nw_n (by omega)).trans (z3 j)
  have z5 : ∀ j, dw_i Y5 bf j = 0 := fun j => (F5.2.2.2.1 bf j B4.1.1 (fun (e : bf = th) => by omega)).trans (z4 j)
  have J5 : pu_IC (dw_s Y5) 1 1 0 0 (pu_a0 1 1) 0 hist 0 buf (-1) := by rw [F5.1, F4.1]; exact J3
  have n5 : 442 ≤ dw_n Y5 := Nat.le_trans n3 (Nat.le_trans F4.2.1 F5.2.1)
  clear F4 F5 B3 B4 r3 r4 z3 z4 J3
  refine dq_ck ⟨c9, s9⟩ (dq_agrees dq_sm0 I J5 hn (fun Y6 A6 => ?_))
  have F6 : dq_use th ι Y5 (dw_cs Y6 (dw_s Y5)) := A6.1
  have r6 : dw_is Y6 r 15 := (dq_is_fr F6 r5 : dw_is (dw_cs Y6 (dw_s Y5)) r 15)
  have B6 : dq_A1 Y6 bf 20 8 := (dq_A1_fr F6 B5 : dq_A1 (dw_cs Y6 (dw_s Y5)) bf 20 8)
  have z6 : ∀ j, dw_i Y6 bf j = 0 := fun j => (F6.2.2.2.1 bf j B5.1.1 (fun (e : bf = ι 5) => by omega)).trans (z5 j)
  have n6 : 442 ≤ dw_n Y6 := Nat.le_trans n5 F6.2.1
  have J6 := A6.2
  clear A6 F6 r5 B5 z5 J5 n5 I
  refine dq_jn (fun a => a.1 = 1 ∧ a.2.2.1 = c0 + 1 + 1 + 1 + 6 + 1457 + 1 + 1 + 1 + 1 ∧ a.2.2.2 = s0 + 8 + 1 + 13 + 19 + 117018 + 6 + 6 + 6 + 6 ∧ ∃ s1 hist', pu_IC s1 1 1 0 0 (pu_a0 1 1) 0 hist' 0 buf (-1) ∧ a.2.1 = dw_cs Y6 s1) (fun a ha => ?_) (fun g hg => ?_)
  · obtain ⟨a1, Ya, ca, sa⟩ := a
    obtain ⟨g1, g2, g3, t1, hist', Jt, g4⟩ := ha
    dsimp only [] at g1 g2 g3 g4
    subst g1 g2 g3 g4
    have C : dq_RC (dw_cs Y6 t1) bf r n := ⟨r6, B6.1, hrb, n6, by omega⟩
    have X : dq_TX bf 1 1 0 0 (pu_a0 1 1) 0 hist' (-1) [] (dw_cs Y6 t1) := ⟨B6, z6 0, fun i => by show 0 < 256; omega, ⟨buf, Jt, fun i hi => absurd hi (Nat.not_lt_zero _)⟩, fun m hm j hj => by
      show pu_byt (dw_i Y6 bf (1 + m)) j = 0
      rw [z6]; exact dq_byt0⟩
    exact dq_lwB_ok C X hn hc hs hj
  · exact dq_lwA_ok J6 (by omega) cA sA (fun t1 hist' Jt => hg _ ⟨rfl, rfl, rfl, t1, hist', Jt, rfl⟩)
end DQTB
