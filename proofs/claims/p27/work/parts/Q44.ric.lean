/-! randomIsland: a bend statement, its second half -/
section DQRC
variable {Y Y0 Y' Y'' Ya Yb : dw_S} {th : Nat} {ι : Nat → Nat} {A A' : Nat → Int32} {w h NB nb NC nc n c s bf r q p w0 h0 nb0 nc0 cn0 m cc mk x y x2 y2 t : Nat} {a0 : Nat → Int32} {hist0 : Nat → Nat → Int32} {err0 : Int32} {T T' P : List Nat} {D : Nat → Nat}
/-- a bend's turn -/
def dq_tn (rt : Bool) (t : Nat) : Int32 := if rt then Int32.ofNat t else -Int32.ofNat t
theorem dq_tn_f : ∀ (rt : Bool) (t : Fin 4), 1 ≤ t.val → ((0 ≤ dq_tn rt t.val ↔ rt = true) ∧ (if 0 ≤ dq_tn rt t.val then dq_tn rt t.val else 0 - dq_tn rt t.val) = Int32.ofNat t.val) := by decide
/-- the first four numbers of the bend's row, copied -/
theorem dq_NA_cp {i m : Nat} (H : dq_NA Y Y' q m D i) (B : dq_A1 Y p 20 5) : dw_is Y' p 20 ∧ (∀ (v : Int32) (k : Nat), v = Int32.ofNat k → k < 5 → tw_ok v (dw_l Y' p) = true) ∧ ∀ j, dw_i Y' p j = dw_i Y p j := by
  have B' : dq_A1 Y' p 20 5 := dq_A1_fr H.1 B
  exact ⟨B'.1, fun v k e hk => by rw [e]; exact (dq_A1_ok B' hk (by omega)).2, fun j => H.1.2.2.2.1 p j B.1.1 (fun z => z)⟩
set_option maxHeartbeats 2000000 in
theorem dq_riBc_ok {rt : Bool} {K : Int32 × dw_S × Nat × Nat → Prop} (C : dq_RC Y0 bf r n) (R : dq_RI Y0 bf r th w0 h0 nb0 nc0 a0 cn0 hist0 err0 T A w h NB nb 0 0 ι Y) (hnb : nb < NB) (hNB : NB ≤ 2) (B : dq_A1 Y p 20 5) (hp2 : ι 2 ≠ p) (hp5 : ι 5 ≠ p) (hpb : ∀ k, k < nb → ι (10 + k) ≠ p) (hp0 : dw_n Y0 ≤ p) (hB : ∀ i, i < 4 → dw_i Y p i = Int32.ofNat (D i)) (hx : D 0 ≤ D 2) (hx1 : D 2 < w) (hy : D 1 ≤ D 3) (hy1 : D 3 < h) (ht : 1 ≤ t ∧ t ≤ 3) (hL : T.length < 400) (hc : c + 2 ≤ 300) (hs : s + 5 ≤ 2600) (hK : ∀ T' A' Y' ι', dq_RI Y0 bf r th w0 h0 nb0 nc0 a0 cn0 hist0 err0 T' A' w h NB (nb + 1) 0 0 ι' Y' → (∀ m, m < 8 → A' (808 + m) = A (808 + m)) → A' 4 = A 4 → T'.length ≤ T.length + 21 → K (Int32.ofNat nb + (1 : Int32), Y', c + 1 + 1, s + 4 + 1)) : dq_riBc n bf th p (Int32.ofNat nb) (dq_tn rt t) Y c s K := by
  have hD := R.2.2.2.2.2.2
  obtain ⟨hwh, hwh2, hwp, hw0⟩ := dq_RD_b hD
  have hd1 := hD.2.1
  have hd2 := hD.2.2.2
  have hn := C.2.2.2.2
  obtain ⟨tn1, tn2⟩ := dq_tn_f rt ⟨t, by omega⟩ ht.1
  dsimp only [] at tn1 tn2
  unfold dq_riBc
  obtain ⟨u1, u2, u3⟩ := dq_RI_n C R
  refine dq_ck (dq_A1_ok (m := 4) B (by omega) (by omega)) (dq_lt ?_)
  have F1 : dq_fr (fun k _ => k = p) dq_no Y (dw_pi Y p 4 (dq_tn rt t)) := dq_fr_pi dq_fr_refl (fun _ => rfl)
  obtain ⟨W1, X1, ⟨P1, AW1, L1, v2, v3⟩, I0, th1, f1, -⟩ := id R
  have hb0 := C.2.1.1
  have hr0 := C.1.1
  have f1' := dq_fsh0.mp f1
  have x13 : th ≠ p := dq_is_ne I0.1 B.1 (by decide)
  have I1 : dq_P (dw_pi Y p 4 (dq_tn rt t)) th ι (dq_aT A) w h NB nb 0 0 := by
    refine dq_P_fr F1 I0 (fun j => x13) (fun _ _ z => z) (fun k j hk => ⟨fun (z : k = p) => ?_, fun z => z⟩)
    subst z
    obtain ⟨⟨m1, -⟩, ⟨m3, -⟩, m5, -⟩ := I0.2.2.2.1
    have b1 := I0.2.2.2.2.1.1
    have c1 := I0.2.2.2.2.2.1.1
    rcases hk with z | z | z | z | z | ⟨i, hi, z⟩ | ⟨q, hq, -⟩
    · exact dq_is_ne B.1 m1.1 (by decide) z
    · exact dq_is_ne B.1 m3.1 (by decide) z
    · exact hp2 z.symm
    · exact dq_is_ne B.1 b1.1 (by decide) z
    · exact dq_is_ne B.1 c1.1 (by decide) z
    · exact hpb i hi z.symm
    · exact absurd hq (Nat.not_lt_zero _)
  have B1 : dq_A1 (dw_pi Y p 4 (dq_tn rt t)) p 20 5 := dq_A1_fr F1 B
  have hv1 : ∀ i, i < 4 → dw_i (dw_pi Y p 4 (dq_tn rt t)) p i = Int32.ofNat (D i) := fun i hi => by rw [dq_i_pi_j (by omega)]; exact hB i hi
  have hv4 : dw_i (dw_pi Y p 4 (dq_tn rt t)) p 4 = dq_tn rt t := dq_i_pi_s
  have W1 : dq_wx bf r Y0 (dw_pi Y p 4 (dq_tn rt t)) := dq_wx_fr W1 F1 (fun k j hk (z : k = p) => by omega) (fun _ _ _ z => z)
  have X1 := dq_TX_fr F1 (fun j (z : bf = p) => by omega) X1
  have u1 : 442 ≤ dw_n (dw_pi Y p 4 (dq_tn rt t)) := u1
  have u3 : bf < dw_n (dw_pi Y p 4 (dq_tn rt t)) := u3
  generalize dw_pi Y p 4 (dq_tn rt t) = Y1 at F1 I1 B1 hv1 hv4 W1 X1 u1 u3 ⊢
  have r5 := I1.2.2.1.2.2.2.1
  have b1 := I1.2.2.2.2.1.1
  refine dq_ck I1.1 (dq_nn r5 (dq_ck ⟨b1.1, (dq_A1_ok b1 hnb (by omega)).2, B1.1⟩ (dq_lt ?_)))
  rw [pu_n (show nb < 2147483648 by omega)]
  -- the row of the bend
  have aBo : ∀ j, j ≠ 2 → j < 816 + 5 * nb → pu_aB A (D 0) (D 1) (D 2) (D 3) (dq_tn rt t) j = A j := fun j j1 j2 => pu_aB_out j1 (by rw [v2]; omega)
  obtain ⟨i2, ib0, ib1, ib2, ib3, ib4⟩ := pu_aB_in (A := A) (x0 := D 0) (y0 := D 1) (x1 := D 2) (y1 := D 3) (t := dq_tn rt t)
  rw [v2] at i2 ib0 ib1 ib2 ib3 ib4
  have hg : ∀ j, 4 ≤ j → j < 816 + 5 * nb → dq_aT (pu_aB A (D 0) (D 1) (D 2) (D 3) (dq_tn rt t)) j = dq_aT A j := fun j j1 j2 => by
    by_cases ej : j = 4
    · rw [ej, dq_aT_4, dq_aT_4, aBo 4 (by omega) (by omega)]
    · rw [dq_aT_n ej, dq_aT_n ej, aBo j (by omega) j2]
  obtain ⟨κ, I2, κb, κo⟩ := dq_P_bend (a' := dq_aT (pu_aB A (D 0) (D 1) (D 2) (D 3) (dq_tn rt t))) I1 (by omega) (by omega) B1 hp2 hp5 hpb (fun j hj => by
    rw [dq_aT_n (by omega)]
    have hc5 : j = 0 ∨ j = 1 ∨ j = 2 ∨ j = 3 ∨ j = 4 := by omega
    rcases hc5 with e | e | e | e | e <;> subst e
    · rw [hv1 0 (by omega)]; exact ib0.symm
    · rw [hv1 1 (by omega)]; exact ib1.symm
    · rw [hv1 2 (by omega)]; exact ib2.symm
    · rw [hv1 3 (by omega)]; exact ib3.symm
    · rw [hv4]; exact ib4.symm) hg
  have F2 : dq_fr dq_no (fun k _ => k = ι 3) Y1 (dw_pr Y1 (ι 3) nb (some p)) := dq_fr_pr dq_fr_refl (fun _ => rfl)
  have e3 := f1'.1 3 (by omega)
  have W2 : dq_wx bf r Y0 (dw_pr Y1 (ι 3) nb (some p)) := dq_wx_fr W1 F2 (fun _ _ _ z => absurd z id) (fun k j hk (z : k = ι 3) => by omega)
  have X2 := dq_TX_fr F2 (fun _ z => z) X1
  have B2 : dq_A1 (dw_pr Y1 (ι 3) nb (some p)) p 20 5 := B1
  have hw1 : ∀ i, i < 4 → dw_i (dw_pr Y1 (ι 3) nb (some p)) p i = Int32.ofNat (D i) := hv1
  have hw4 : dw_i (dw_pr Y1 (ι 3) nb (some p)) p 4 = dq_tn rt t := hv4
  have u1' : 442 ≤ dw_n (dw_pr Y1 (ι 3) nb (some p)) := u1
  have u3' : bf < dw_n (dw_pr Y1 (ι 3) nb (some p)) := u3
  generalize dw_pr Y1 (ι 3) nb (some p) = Y2 at F2 I2 W2 X2 B2 hw1 hw4 u1' u3' ⊢
  have f2 : dq_fsh (dw_n Y0) κ (dq_aT (pu_aB A (D 0) (D 1) (D 2) (D 3) (dq_tn rt t))) (nb + 1) 0 := by
    refine dq_fsh0.mpr ⟨fun j hj => by rw [κo j (by omega)]; exact f1'.1 j hj, fun k hk => ?_⟩
    by_cases e : k = nb
    · rw [e, κb]; exact hp0
    · rw [κo _ (by omega)]; exact f1'.2 k (by omega)
  refine dq_ck ⟨⟨by decide, by decide⟩, by omega, by omega⟩ (fun q hq => dq_lt ?_)
  have N0 : dq_NA Y2 (dw_nw Y2 q 20 4 (fun _ => 0) (fun _ => none)) q 4 D 0 := dq_NA_new u1' hq
  generalize dw_nw Y2 q 20 4 (fun _ => 0) (fun _ => none) = Z0 at N0 ⊢
  obtain ⟨c1, c2, c3⟩ := dq_NA_cp N0 B2
  refine dq_ck ⟨c1, c2 _ 0 rfl (by omega)⟩ (dq_ck (dq_NA_ok N0 (k := 0) rfl (by omega) (by omega)) (dq_lt ?_))
  rw [c3, hw1 0 (by omega)]
  have N1 := dq_NA_set N0 (k := 0) (v := Int32.ofNat (D 0)) rfl rfl
  generalize dw_pi Z0 q 0 (Int32.ofNat (D 0)) = Z1 at N1 ⊢
  obtain ⟨c1, c2, c3⟩ := dq_NA_cp N1 B2
  refine dq_ck ⟨c1, c2 _ 1 rfl (by omega)⟩ (dq_ck (dq_NA_ok N1 (k := 1) rfl (by omega) (by omega)) (dq_lt ?_))
  rw [c3, hw1 1 (by omega)]
  have N2 := dq_NA_set N1 (k := 1) (v := Int32.ofNat (D 1)) rfl rfl
  generalize dw_pi Z1 q 1 (Int32.ofNat (D 1)) = Z2 at N2 ⊢
  obtain ⟨c1, c2, c3⟩ := dq_NA_cp N2 B2
  refine dq_ck ⟨c1, c2 _ 2 rfl (by omega)⟩ (dq_ck (dq_NA_ok N2 (k := 2) rfl (by omega) (by omega)) (dq_lt ?_))
  rw [c3, hw1 2 (by omega)]
  have N3 := dq_NA_set N2 (k := 2) (v := Int32.ofNat (D 2)) rfl rfl
  generalize dw_pi Z2 q 2 (Int32.ofNat (D 2)) = Z3 at N3 ⊢
  obtain ⟨c1, c2, c3⟩ := dq_NA_cp N3 B2
  refine dq_ck ⟨c1, c2 _ 3 rfl (by omega)⟩ (dq_ck (dq_NA_ok N3 (k := 3) rfl (by omega) (by omega)) (dq_lt ?_))
  rw [c3, hw1 3 (by omega)]
  have N4 := dq_NA_set N3 (k := 3) (v := Int32.ofNat (D 3)) rfl rfl
  generalize dw_pi Z3 q 3 (Int32.ofNat (D 3)) = Z4 at N4 ⊢
  clear N0 N1 N2 N3 c1 c2 c3
  have hd10 : ∀ i, i < 4 → D i < 10 := by
    intro i hi
    have hc4 : i = 0 ∨ i = 1 ∨ i = 2 ∨ i = 3 := by omega
    rcases hc4 with e | e | e | e <;> subst e <;> omega
  have hq2 := N4.2.2.1
  have n4 := N4.1.2.1
  have l1 : (dq_wd 1).length = 4 := by decide +kernel
  have l30 : (dq_wd 30).length = 5 := by decide +kernel
  have l31 : (dq_wd 31).length = 6 := by decide +kernel
  refine dq_ck ⟨by omega, by omega⟩ (dq_writeAll (D := D) (by decide) (by omega) N4.2.1 (fun i hi => ⟨N4.2.2.2 i hi, hd10 i hi⟩) (by omega) (dq_TX_fr N4.1 (fun _ z => z) X2) (by omega) (by omega) (fun Y6 F6 X6 => ?_))
  have V6 : dq_wr bf Y2 Y6 := dq_wr_tr (dq_wr_no N4.1) F6
  have n6 : dw_n Y2 ≤ dw_n Y6 := dq_wx_n (r := bf) (dq_wr_wx V6)
  have hpbf : p ≠ bf := by omega
  have B6 : dq_A1 Y6 p 20 5 := dq_A1_wx (r := bf) (dq_wr_wx V6) B2
  have hv6 : dw_i Y6 p 4 = dq_tn rt t := (dq_i_wx (r := bf) (dq_wr_wx V6) B2.1.1 hpbf hpbf).trans hw4
  have lx : (dq_wd (if rt then 31 else 30)).length = 5 + (if rt then 1 else 0) := by cases rt; exact l30; exact l31
  have hx33 : (if rt then 31 else 30) < 33 := by cases rt <;> decide
  refine dq_ck (dq_A1_ok (m := 4) B6 (by omega) (by omega)) (dq_jn (fun a => a = if rt then 31 else 30) (fun a ha => ?_) (fun f hf => ?_))
  · subst ha
    refine dq_ck hx33 (dq_ck ⟨⟨by decide, by decide⟩, by omega, by omega⟩ (fun q3 hq3 => dq_lt ?_))
    have M0 : dq_NA Y6 (dw_nw Y6 q3 20 1 (fun _ => 0) (fun _ => none)) q3 1 (fun _ => t) 0 := dq_NA_new (by omega) hq3
    generalize dw_nw Y6 q3 20 1 (fun _ => 0) (fun _ => none) = V0 at M0 ⊢
    obtain ⟨c1, c2, c3⟩ := dq_NA_cp M0 B6
    refine dq_ck ⟨c1, c2 _ 4 rfl (by omega)⟩ (dq_ck ⟨by omega, by omega⟩ (dq_ck (dq_NA_ok M0 (k := 0) rfl (by omega) (by omega)) (dq_lt ?_)))
    rw [c3, hv6, tn2]
    have M1 := dq_NA_set M0 (k := 0) (v := Int32.ofNat t) rfl rfl
    generalize dw_pi V0 q3 0 (Int32.ofNat t) = V1 at M1 ⊢
    have hq4 := M1.2.2.1
    have hl6 : (T ++ (dq_wd 1 ++ dq_nums D 4)).length = T.length + 12 := by rw [List.length_append, List.length_append, dq_nums_len, l1]
    refine dq_ck ⟨by omega, by omega⟩ (dq_writeAll (D := fun _ => t) hx33 (by omega) M1.2.1 (fun i hi => ⟨M1.2.2.2 i hi, by omega⟩) (by omega) (dq_TX_fr M1.1 (fun _ z => z) X6) (by omega) (by omega) (fun Y7 F7 X7 => dq_ck ⟨by omega, by omega⟩ (dq_write (by decide) X7 ?_ (by omega) (fun Y8 F8 X8 => dq_lt ?_))))
    · rw [List.length_append, hl6, List.length_append, dq_nums_len, lx]
      split <;> omega
    have eT : ((T ++ (dq_wd 1 ++ dq_nums D 4)) ++ (dq_wd (if rt then 31 else 30) ++ dq_nums (fun _ => t) 1)) ++ dq_wd 29 = T ++ (dq_wd 1 ++ (dq_nums D 4 ++ (dq_wd (if rt then 31 else 30) ++ ([32, 48 + t] ++ [59])))) := by
      rw [dq_l29, show dq_nums (fun _ => t) 1 = [32, 48 + t] from rfl]; simp only [List.append_assoc]
    rw [eT] at X8
    have PR := dq_PR_bend (D := D) (r := rt) (t := t) P1 AW1 X8.2.2.1 hx hx1 hy hy1 ⟨hd10 2 (by omega), hd10 3 (by omega)⟩ ht (by omega)
    refine hK _ _ _ κ (dq_RI_wr C W2 (dq_wr_tr V6 (dq_wr_tr (dq_wr_no M1.1) (dq_wr_tr F7 F8))) X8 I2 th1 f2 ⟨PR.1, PR.2, ?_, ?_, (pu_v_cong (aBo 3 (by omega) (by omega))).trans v3⟩ hD) (fun m hm8 => aBo _ (by omega) (by omega)) (aBo 4 (by omega) (by omega)) ?_
    · unfold pu_land
      rw [aBo _ (by omega) (by omega)]; exact L1
    · unfold pu_v
      rw [i2, pu_n (by omega)]
    · rw [List.length_append, dq_nl 1 _ (k := 4) (l := 8 + (5 + (if rt then 1 else 0) + 3)) l1 (by rw [List.length_append, List.length_append, dq_nums_len, lx]; rfl)]
      split <;> omega
  · rw [hv6]
    refine dq_if (fun z => hf _ ?_) (fun z => hf _ ?_)
    · rw [tn1.mp z]; rfl
    · cases rt
      · rfl
      · exact absurd (tn1.mpr rfl) z
end DQRC
