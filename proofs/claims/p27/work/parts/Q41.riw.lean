/-! randomIsland: what holds between its statements; a water statement -/
section DQRB
variable {Y Y0 Y' Y'' Ya Yb : dw_S} {th : Nat} {ι : Nat → Nat} {A A' : Nat → Int32} {w h NB nb NC nc n c s bf r q w0 h0 nb0 nc0 cn0 : Nat} {a0 : Nat → Int32} {hist0 : Nat → Nat → Int32} {err0 : Int32} {T T' P : List Nat}
/-- what stands -/
def dq_RC (Y0 : dw_S) (bf r n : Nat) : Prop := dw_is Y0 r 15 ∧ dw_is Y0 bf 20 ∧ r ≠ bf ∧ 442 ≤ dw_n Y0 ∧ 2000 < n
/-- the row that the text says -/
def dq_RR (T : List Nat) (A : Nat → Int32) (w h nb nc : Nat) : Prop := dq_PR T w h A ∧ pu_AW A w h ∧ pu_land A 0 = true ∧ pu_v A 2 = nb ∧ pu_v A 3 = nc
def dq_RD (w h : Nat) : Prop := 2 ≤ w ∧ w ≤ 6 ∧ 2 ≤ h ∧ h ≤ 5
/-- what holds on the way -/
def dq_RI (Y0 : dw_S) (bf r th w0 h0 nb0 nc0 : Nat) (a0 : Nat → Int32) (cn0 : Nat) (hist0 : Nat → Nat → Int32) (err0 : Int32) (T : List Nat) (A : Nat → Int32) (w h NB nb NC nc : Nat) (ι : Nat → Nat) (Y : dw_S) : Prop := dq_wx bf r Y0 Y ∧ dq_TX bf w0 h0 nb0 nc0 a0 cn0 hist0 err0 T Y ∧ dq_RR T A w h nb nc ∧ dq_P Y th ι (dq_aT A) w h NB nb NC nc ∧ dw_n Y0 ≤ th ∧ dq_fsh (dw_n Y0) ι (dq_aT A) nb nc ∧ dq_RD w h
theorem dq_RI_wx (C : dq_RC Y0 bf r n) (R : dq_RI Y0 bf r th w0 h0 nb0 nc0 a0 cn0 hist0 err0 T A w h NB nb NC nc ι Yb) (W : dq_wx bf r Yb Y') (X : dq_TX bf w0 h0 nb0 nc0 a0 cn0 hist0 err0 T' Y') (R' : dq_RR T' A w h nb nc) : dq_RI Y0 bf r th w0 h0 nb0 nc0 a0 cn0 hist0 err0 T' A w h NB nb NC nc ι Y' := by
  obtain ⟨W0, -, -, I, t1, f1, D⟩ := R
  obtain ⟨hr, hbf, -, -, -⟩ := C
  have hr0 := hr.1
  have hb0 := hbf.1
  exact ⟨dq_wx_tr W0 W, X, R', dq_P_wx W I ⟨by omega, by omega⟩ (fun k hk => by have := f1.1 k hk; exact ⟨by omega, by omega⟩), t1, f1, D⟩
theorem dq_RI_fr {Si : Nat → Nat → Prop} (C : dq_RC Y0 bf r n) (R : dq_RI Y0 bf r th w0 h0 nb0 nc0 a0 cn0 hist0 err0 T A w h NB nb NC nc ι Yb) (F : dq_fr Si dq_no Yb Y') (hS : ∀ k j, Si k j → k = r ∨ dw_n Yb ≤ k) : dq_RI Y0 bf r th w0 h0 nb0 nc0 a0 cn0 hist0 err0 T A w h NB nb NC nc ι Y' := by
  have hb : bf < dw_n Yb := by have := dq_wx_n R.1; have := C.2.1.1; omega
  have hrb := C.2.2.1
  exact dq_RI_wx C R (dq_wx_fr dq_wx_refl F (fun k j hk z => by rcases hS k j z with e | e; exact Or.inr e; omega) (fun _ _ _ z => z)) (dq_TX_fr F (fun j z => by rcases hS _ _ z with e | e; exact hrb e.symm; omega) R.2.1) R.2.2.1
/-- the island was changed, the text follows -/
theorem dq_RI_wr (C : dq_RC Y0 bf r n) (W : dq_wx bf r Y0 Ya) (V : dq_wr bf Ya Y') (X : dq_TX bf w0 h0 nb0 nc0 a0 cn0 hist0 err0 T' Y') (I : dq_P Ya th ι (dq_aT A') w h NB nb NC nc) (t1 : dw_n Y0 ≤ th) (f1 : dq_fsh (dw_n Y0) ι (dq_aT A') nb nc) (R' : dq_RR T' A' w h nb nc) (D : dq_RD w h) : dq_RI Y0 bf r th w0 h0 nb0 nc0 a0 cn0 hist0 err0 T' A' w h NB nb NC nc ι Y' := by
  obtain ⟨hr, hbf, -, -, -⟩ := C
  have hr0 := hr.1
  have hb0 := hbf.1
  exact ⟨dq_wx_wr W V, X, R', dq_P_wx (dq_wr_wx (r := r) V) I ⟨by omega, by omega⟩ (fun k hk => by have := f1.1 k hk; exact ⟨by omega, by omega⟩), t1, f1, D⟩
theorem dq_RI_n (C : dq_RC Y0 bf r n) (R : dq_RI Y0 bf r th w0 h0 nb0 nc0 a0 cn0 hist0 err0 T A w h NB nb NC nc ι Y) : 442 ≤ dw_n Y ∧ dw_is Y r 15 ∧ bf < dw_n Y := by
  have := dq_wx_n R.1
  have := C.2.1.1
  exact ⟨by have := C.2.2.2.1; omega, dq_is_wx R.1 C.1, by omega⟩
theorem dq_RD_b (D : dq_RD w h) : w * h ≤ 30 ∧ 4 ≤ w * h ∧ 0 < w ∧ ¬ Int32.ofNat w = 0 := by
  obtain ⟨d1, d2, d3, d4⟩ := D
  exact ⟨Nat.mul_le_mul d2 d4, Nat.mul_le_mul d1 d3, by omega, pu_ne0 (by omega) (by omega)⟩
theorem dq_D4 (x y z u : Nat) : ∃ D : Nat → Nat, D 0 = x ∧ D 1 = y ∧ D 2 = z ∧ D 3 = u := ⟨fun j => if j = 0 then x else if j = 1 then y else if j = 2 then z else u, rfl, rfl, rfl, rfl⟩
theorem dq_l29 : dq_wd 29 = [59] := by decide +kernel
set_option maxHeartbeats 1000000 in
theorem dq_riWb_ok {v : Int32} {K : Int32 × dw_S × Nat × Nat → Prop} (C : dq_RC Y0 bf r n) (R : dq_RI Y0 bf r th w0 h0 nb0 nc0 a0 cn0 hist0 err0 T A w h 0 0 0 0 ι Y) (hm : ∀ m, m < 8 → A (808 + m) = -1) (h4 : A 4 = -1) (hL : T.length < 400) (hc : c + 1 ≤ 300) (hs : s + 4 ≤ 2600) (hK : ∀ T' A' Y', dq_RI Y0 bf r th w0 h0 nb0 nc0 a0 cn0 hist0 err0 T' A' w h 0 0 0 0 ι Y' → (∀ m, m < 8 → A' (808 + m) = -1) → A' 4 = -1 → T'.length = T.length + 14 → K (v + (-1 : Int32), Y', c + 1, s + 4)) : dq_riWb n bf r th (Int32.ofNat (w * h)) v Y c s K := by
  have hD := R.2.2.2.2.2.2
  obtain ⟨hwh, hwh2, hwp, hw0⟩ := dq_RD_b hD
  have hn := C.2.2.2.2
  have hb1 : vp_nar .boolean (1 : Int32) = 1 := by decide
  unfold dq_riWb
  rw [hb1]
  rw [show (Int32.ofNat (w * h)) - (1 : Int32) = Int32.ofNat (w * h - 1) from pu_sub (b := 1) (by omega)]
  refine dq_ck ⟨(dq_RI_n C R).2.1, by omega, by omega⟩ (dq_below (dq_RI_n C R).2.1 (by omega) (by omega) (fun v1 Y1 hv1 F1 => dq_lt ?_))
  have R1 := dq_RI_fr C R F1 (fun k j z => Or.inl z)
  obtain ⟨u1, u2, u3⟩ := dq_RI_n C R1
  clear F1 R
  dsimp only []
  rw [show (1 : Int32) + Int32.ofNat v1 = Int32.ofNat (1 + v1) from pu_add 1 v1]
  obtain ⟨cc, hcd⟩ : ∃ cc, cc = 1 + v1 := ⟨_, rfl⟩
  rw [← hcd]
  have hcc : 1 ≤ cc ∧ cc < w * h := by omega
  clear hcd hv1
  obtain ⟨-, cy, cx, -⟩ := pu_cell hcc.2
  obtain ⟨W1, X1, ⟨P1, AW1, L1, v2, v3⟩, I1, th1, f1, -⟩ := id R1
  have f1' := dq_fsh0.mp f1
  have e0 := f1'.1 0 (by omega)
  obtain ⟨Is, ⟨g0, g1, g7, g8, g9, g10⟩, ⟨r2, -⟩, ⟨⟨m1, m2⟩, ⟨m3, m4⟩, m5, m6⟩, -⟩ := id I1
  refine dq_ck Is (dq_nn r2 (dq_ck (dq_A1_ok m1 hcc.2 (by omega)) (dq_lt ?_)))
  rw [pu_n (show cc < 2147483648 by omega)]
  have hout : ∀ j, j < 8 ∨ 408 ≤ j → pu_aW A w h (cc % w) (cc / w) (cc % w) (cc / w) j = A j := fun j hj => pu_aW_out (by have := hD.2.1; omega) (by have := hD.2.2.2; omega) hj
  have hlow : ∀ j, j < 8 ∨ 408 ≤ j → dq_aT (pu_aW A w h (cc % w) (cc / w) (cc % w) (cc / w)) j = dq_aT A j := fun j hj => by
    by_cases ej : j = 4
    · rw [ej, dq_aT_4, dq_aT_4, hout 4 (by omega)]
    · rw [dq_aT_n ej, dq_aT_n ej, hout j hj]
  have F2 : dq_fr (fun k _ => k = ι 0) dq_no Y1 (dw_pi Y1 (ι 0) cc 1) := dq_fr_pi dq_fr_refl (fun _ => rfl)
  have x0 : th ≠ ι 0 := dq_is_ne Is m1.1 (by decide)
  have x2 : ι 2 ≠ ι 0 := dq_is_ne m5.1 m1.1 (by decide)
  have I2 : dq_P (dw_pi Y1 (ι 0) cc 1) th ι (dq_aT (pu_aW A w h (cc % w) (cc / w) (cc % w) (cc / w))) w h 0 0 0 0 := by
    refine dq_P_chg I1 (by omega) F2 (fun k j z => Or.inr (Or.inl z)) ⟨?_, ?_, ?_, ?_, ?_, fun z => ?_⟩ (fun c' hc' => ?_) (fun k hk => ?_) (fun j j1 j2 j3 j4 => hlow j (by omega))
    · rw [dq_i_pi_k x0]; exact g0
    · rw [dq_i_pi_k x0]; exact g1
    · rw [dq_i_pi_k x0, hlow 4 (by omega)]; exact g7
    · rw [dq_i_pi_k x0, hlow 5 (by omega)]; exact g8
    · rw [dq_i_pi_k x0, hlow 6 (by omega)]; exact g9
    · rw [hlow 6 (by omega)] at z
      rw [dq_i_pi_k x0, hlow 7 (by omega)]; exact g10 z
    · rw [dq_aT_n (by omega)]
      unfold pu_aW
      rw [Nat.add_sub_cancel_left, dq_inA1]
      by_cases e : c' = cc
      · subst e
        rw [dq_i_pi_s, if_pos ⟨by omega, by omega, decide_eq_true rfl⟩]
      · rw [dq_i_pi_j e, if_neg (fun z => e (of_decide_eq_true z.2.2)), m2 c' hc', dq_aT_n (by omega)]
    · rw [dq_i_pi_k x2, hlow _ (by omega)]; exact m6 k hk
  have f2 : dq_fsh (dw_n Y0) ι (dq_aT (pu_aW A w h (cc % w) (cc / w) (cc % w) (cc / w))) 0 0 := dq_fsh0.mpr f1'
  have W2 : dq_wx bf r Y0 (dw_pi Y1 (ι 0) cc 1) := dq_wx_fr W1 F2 (fun k j hk (z : k = ι 0) => by omega) (fun _ _ _ z => z)
  have hb0 := C.2.1.1
  have X2 := dq_TX_fr F2 (fun j (z : bf = ι 0) => by omega) X1
  have u1' : 442 ≤ dw_n (dw_pi Y1 (ι 0) cc 1) := u1
  have u3' : bf < dw_n (dw_pi Y1 (ι 0) cc 1) := u3
  generalize dw_pi Y1 (ι 0) cc 1 = Y2 at F2 I2 W2 X2 u1' u3' ⊢
  have I2s := I2.1
  have I2w := I2.2.1.1
  obtain ⟨D, D0, D1, D2, D3⟩ := dq_D4 (cc % w) (cc / w) (cc % w) (cc / w)
  refine dq_ck ⟨⟨by decide, by decide⟩, by omega, by omega⟩ (fun q hq => dq_lt ?_)
  have N0 : dq_NA Y2 (dw_nw Y2 q 20 4 (fun _ => 0) (fun _ => none)) q 4 D 0 := dq_NA_new u1' hq
  generalize dw_nw Y2 q 20 4 (fun _ => 0) (fun _ => none) = Z0 at N0 ⊢
  refine dq_ck (dq_NA_th N0 I2s).1 ?_
  rw [(dq_NA_th N0 I2s).2 0, I2w, pu_rem (by omega) (by have := hD.2.1; omega)]
  refine dq_ck hw0 (dq_ck (dq_NA_ok N0 (k := 0) rfl (by omega) (by omega)) (dq_lt ?_))
  have N1 := dq_NA_set N0 (k := 0) (v := Int32.ofNat (cc % w)) rfl (by rw [D0])
  generalize dw_pi Z0 q 0 (Int32.ofNat (cc % w)) = Z1 at N1 ⊢
  refine dq_ck (dq_NA_th N1 I2s).1 ?_
  rw [(dq_NA_th N1 I2s).2 0, I2w, pu_div (by omega) (by have := hD.2.1; omega)]
  refine dq_ck hw0 (dq_ck (dq_NA_ok N1 (k := 1) rfl (by omega) (by omega)) (dq_lt ?_))
  have N2 := dq_NA_set N1 (k := 1) (v := Int32.ofNat (cc / w)) rfl (by rw [D1])
  generalize dw_pi Z1 q 1 (Int32.ofNat (cc / w)) = Z2 at N2 ⊢
  refine dq_ck (dq_NA_th N2 I2s).1 ?_
  rw [(dq_NA_th N2 I2s).2 0, I2w, pu_rem (by omega) (by have := hD.2.1; omega)]
  refine dq_ck hw0 (dq_ck (dq_NA_ok N2 (k := 2) rfl (by omega) (by omega)) (dq_lt ?_))
  have N3 := dq_NA_set N2 (k := 2) (v := Int32.ofNat (cc % w)) rfl (by rw [D2])
  generalize dw_pi Z2 q 2 (Int32.ofNat (cc % w)) = Z3 at N3 ⊢
  refine dq_ck (dq_NA_th N3 I2s).1 ?_
  rw [(dq_NA_th N3 I2s).2 0, I2w, pu_div (by omega) (by have := hD.2.1; omega)]
  refine dq_ck hw0 (dq_ck (dq_NA_ok N3 (k := 3) rfl (by omega) (by omega)) (dq_lt ?_))
  have N4 := dq_NA_set N3 (k := 3) (v := Int32.ofNat (cc / w)) rfl (by rw [D3])
  generalize dw_pi Z3 q 3 (Int32.ofNat (cc / w)) = Z4 at N4 ⊢
  clear N0 N1 N2 N3
  have hd10 : ∀ i, i < 4 → D i < 10 := by
    intro i hi
    have hd1 := hD.2.1
    have hd2 := hD.2.2.2
    have hc4 : i = 0 ∨ i = 1 ∨ i = 2 ∨ i = 3 := by omega
    rcases hc4 with e | e | e | e <;> subst e <;> omega
  have hq2 := N4.2.2.1
  refine dq_ck ⟨by omega, by omega⟩ (dq_writeAll (D := D) (by decide) (by omega) N4.2.1 (fun i hi => ⟨N4.2.2.2 i hi, hd10 i hi⟩) (by omega) (dq_TX_fr N4.1 (fun _ z => z) X2) (by omega) (by omega) (fun Y6 F6 X6 => dq_ck ⟨by omega, by omega⟩ (dq_write (by decide) X6 ?_ (by omega) (fun Y7 F7 X7 => dq_lt ?_))))
  · rw [List.length_append, List.length_append, dq_nums_len, show (dq_wd 0).length = 5 by decide +kernel]; omega
  have eT : (T ++ (dq_wd 0 ++ dq_nums D 4)) ++ dq_wd 29 = T ++ (dq_wd 0 ++ (dq_nums D 4 ++ [59])) := by rw [dq_l29]; simp only [List.append_assoc]
  rw [eT] at X7
  have hland : pu_land (pu_aW A w h (cc % w) (cc / w) (cc % w) (cc / w)) 0 = true := by
    rw [pu_aW_in (by omega), dq_inA1, decide_eq_false (show ¬ 0 = cc by omega), L1]; rfl
  have hon : ¬ pu_onA A w (cc % w) (cc / w) (cc % w) (cc / w) := by
    unfold pu_onA
    rintro (⟨m, hm8, z⟩ | z)
    · unfold pu_mA at z
      rw [pu_mk0.mpr (hm m hm8)] at z
      cases z
    · rw [pu_tm0.mpr h4] at z
      cases z
  have PR := dq_PR_water (D := D) P1 AW1 X7.2.2.1 (by rw [D2, D0]) (by rw [D3, D1]) (by rw [D0]; exact cx) (by rw [D1]; exact cy) ⟨hd10 0 (by omega), hd10 1 (by omega)⟩ (by rw [D0, D1]; exact hon) (by rw [D0, D1]; exact ⟨0, by omega, hland⟩)
  rw [D0, D1] at PR
  refine hK _ _ _ (dq_RI_wr C W2 (dq_wr_tr (dq_wr_no N4.1) (dq_wr_tr F6 F7)) X7 I2 th1 f2 ⟨PR.1, PR.2, hland, (pu_v_cong (hout 2 (by omega))).trans v2, (pu_v_cong (hout 3 (by omega))).trans v3⟩ hD) (fun m hm8 => (hout _ (by omega)).trans (hm m hm8)) ((hout 4 (by omega)).trans h4) ?_
  rw [List.length_append, dq_nl 0 _ (k := 5) (by decide +kernel) dq_n59]
end DQRB
