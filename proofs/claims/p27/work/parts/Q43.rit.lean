/-! randomIsland: the team -/
section DQRT
variable {Y Y0 Y' Y'' Ya Yb : dw_S} {th : Nat} {ι : Nat → Nat} {A A' : Nat → Int32} {w h NB nb NC nc n c s bf r q w0 h0 nb0 nc0 cn0 m cc mk : Nat} {a0 : Nat → Int32} {hist0 : Nat → Nat → Int32} {err0 : Int32} {T T' P : List Nat}
theorem dq_nm1 {x : Nat} (hx : x < 2147483648) : Int32.ofNat x ≠ -1 := fun z => by
  have := congrArg Int32.toInt z
  rw [pu_toInt hx, show (-1 : Int32).toInt = -1 by decide] at this
  omega
set_option maxHeartbeats 1000000 in
theorem dq_riT_ok {Q : Option Nat × dw_S → Prop} (C : dq_RC Y0 bf r n) (R : dq_RI Y0 bf r th w0 h0 nb0 nc0 a0 cn0 hist0 err0 T A w h NB nb 0 0 ι Y) (h1 : 1 ≤ mk) (h3 : mk ≤ 3) (M : dq_MK A w h mk) (h4 : A 4 = -1) (hL : T.length < 400) (hc : c + 1 ≤ 300) (hs : s + 2 ≤ 2600) (hE : ∀ T' A' Y' c' s', dq_RI Y0 bf r th w0 h0 nb0 nc0 a0 cn0 hist0 err0 T' A' w h NB nb 0 0 ι Y' → (∀ m, m < mk → A' (808 + m) ≠ -1) → T'.length ≤ T.length + 9 → c' ≤ c + 1 → s' ≤ s + 2 → dq_riE n bf r th (Int32.ofNat mk) Y' c' s' Q) : dq_riT n bf r th (Int32.ofNat mk) Y c s Q := by
  have hD := R.2.2.2.2.2.2
  obtain ⟨hwh, hwh2, hwp, hw0⟩ := dq_RD_b hD
  have hn := C.2.2.2.2
  have hMn : ∀ m, m < mk → A (808 + m) ≠ -1 := fun m hm => by
    obtain ⟨x, x1, x2, -⟩ := M.1 m hm
    rw [x2]; exact dq_nm1 (by omega)
  unfold dq_riT
  refine dq_ck ⟨(dq_RI_n C R).2.1, by omega, by omega⟩ (dq_below (b := 2) (dq_RI_n C R).2.1 (by omega) (by omega) (fun v Y1 hv F1 => ?_))
  have R1 := dq_RI_fr C R F1 (fun k j z => Or.inl z)
  obtain ⟨u1, u2, u3⟩ := dq_RI_n C R1
  clear F1 R
  refine dq_jn (fun a => a.2.1 ≤ c + 1 ∧ a.2.2 ≤ s + 2 ∧ ∃ T' A', dq_RI Y0 bf r th w0 h0 nb0 nc0 a0 cn0 hist0 err0 T' A' w h NB nb 0 0 ι a.1 ∧ (∀ m, m < mk → A' (808 + m) ≠ -1) ∧ T'.length ≤ T.length + 9) (fun a ha => ?_) (fun f hf => ?_)
  · obtain ⟨Ya, ca, sa⟩ := a
    obtain ⟨h1, h2, T', A', R', M', l'⟩ := ha
    dsimp only [] at h1 h2 R'
    dsimp only []
    exact hE T' A' Ya ca sa R' M' l' h1 h2
  dsimp only []
  refine dq_if (fun _ => hf _ ⟨by show c ≤ _; omega, by show s ≤ _; omega, T, A, R1, hMn, by omega⟩) (fun _ => ?_)
  obtain ⟨cc, hcc, hA8, hl⟩ := M.1 0 (by omega)
  obtain ⟨-, cy, cx, ce⟩ := pu_cell hcc
  obtain ⟨W1, X1, ⟨P1, AW1, L1, v2, v3⟩, I1, th1, f1, -⟩ := id R1
  obtain ⟨Is, ⟨g0, g1, g7, g8, g9, g10⟩, ⟨-, -, r4, -⟩, ⟨⟨m1, m2⟩, ⟨m3, m4⟩, m5, m6⟩, -⟩ := id I1
  refine dq_ck Is (dq_nn r4 (dq_ck (dq_A1_ok (m := 0) m5 (by omega) (by omega)) (dq_ck Is (dq_lt ?_))))
  have hm0 : dw_i Y1 (ι 2) 0 = Int32.ofNat cc := by rw [m6 0 (by omega), dq_aT_n (by omega)]; exact hA8
  rw [hm0]
  have hlow : ∀ j, j ≠ 4 → dq_aT (upd A 4 (Int32.ofNat cc)) j = dq_aT A j := fun j hj => by rw [dq_aT_n hj, dq_aT_n hj, pu_upd_n hj]
  have hin : dq_aT (upd A 4 (Int32.ofNat cc)) 4 = Int32.ofNat cc := by rw [dq_aT_4, pu_upd_s, if_neg (dq_nm1 (by omega))]
  have F2 : dq_fr (fun k _ => k = th) dq_no Y1 (dw_pi Y1 th 7 (Int32.ofNat cc)) := dq_fr_pi dq_fr_refl (fun _ => rfl)
  have x0 : ι 0 ≠ th := dq_is_ne m1.1 Is (by decide)
  have x2 : ι 2 ≠ th := dq_is_ne m5.1 Is (by decide)
  have hnb : nb ≤ 8 := by rw [← v2]; exact AW1.2.1.2.1
  have I2 : dq_P (dw_pi Y1 th 7 (Int32.ofNat cc)) th ι (dq_aT (upd A 4 (Int32.ofNat cc))) w h NB nb 0 0 := by
    refine dq_P_chg I1 (by omega) F2 (fun k j z => Or.inl z) ⟨?_, ?_, ?_, ?_, ?_, fun z => ?_⟩ (fun c' hc' => ?_) (fun k hk => ?_) (fun j j1 j2 j3 j4 => hlow j (by omega))
    · rw [dq_i_pi_j (by decide)]; exact g0
    · rw [dq_i_pi_j (by decide)]; exact g1
    · rw [dq_i_pi_s, hin]
    · rw [dq_i_pi_j (by decide), hlow 5 (by omega)]; exact g8
    · rw [dq_i_pi_j (by decide), hlow 6 (by omega)]; exact g9
    · rw [hlow 6 (by omega)] at z
      rw [dq_i_pi_j (by decide), hlow 7 (by omega)]; exact g10 z
    · rw [dq_i_pi_k x0, hlow _ (by omega)]; exact m2 c' hc'
    · rw [dq_i_pi_k x2, hlow _ (by omega)]; exact m6 k hk
  have f2 : dq_fsh (dw_n Y0) ι (dq_aT (upd A 4 (Int32.ofNat cc))) nb 0 := dq_fsh0.mpr (dq_fsh0.mp f1)
  have W2 : dq_wx bf r Y0 (dw_pi Y1 th 7 (Int32.ofNat cc)) := dq_wx_fr W1 F2 (fun k j hk (z : k = th) => by omega) (fun _ _ _ z => z)
  have hb0 := C.2.1.1
  have X2 := dq_TX_fr F2 (fun j (z : bf = th) => by omega) X1
  have u1' : 442 ≤ dw_n (dw_pi Y1 th 7 (Int32.ofNat cc)) := u1
  have u3' : bf < dw_n (dw_pi Y1 th 7 (Int32.ofNat cc)) := u3
  have I27 : dw_i (dw_pi Y1 th 7 (Int32.ofNat cc)) th 7 = Int32.ofNat cc := dq_i_pi_s
  generalize dw_pi Y1 th 7 (Int32.ofNat cc) = Y2 at F2 I2 W2 X2 u1' u3' I27 ⊢
  have I2s := I2.1
  have I2w := I2.2.1.1
  obtain ⟨D, D0, D1, -, -⟩ := dq_D4 (cc % w) (cc / w) 0 0
  refine dq_ck ⟨⟨by decide, by decide⟩, by omega, by omega⟩ (fun q hq => dq_lt ?_)
  have N0 : dq_NA Y2 (dw_nw Y2 q 20 2 (fun _ => 0) (fun _ => none)) q 2 D 0 := dq_NA_new u1' hq
  generalize dw_nw Y2 q 20 2 (fun _ => 0) (fun _ => none) = Z0 at N0 ⊢
  refine dq_ck (dq_NA_th N0 I2s).1 (dq_ck (dq_NA_th N0 I2s).1 ?_)
  rw [(dq_NA_th N0 I2s).2 0, (dq_NA_th N0 I2s).2 7, I2w, I27, pu_rem (by omega) (by have := hD.2.1; omega)]
  refine dq_ck hw0 (dq_ck (dq_NA_ok N0 (k := 0) rfl (by omega) (by omega)) (dq_lt ?_))
  have N1 := dq_NA_set N0 (k := 0) (v := Int32.ofNat (cc % w)) rfl (by rw [D0])
  generalize dw_pi Z0 q 0 (Int32.ofNat (cc % w)) = Z1 at N1 ⊢
  refine dq_ck (dq_NA_th N1 I2s).1 (dq_ck (dq_NA_th N1 I2s).1 ?_)
  rw [(dq_NA_th N1 I2s).2 0, (dq_NA_th N1 I2s).2 7, I2w, I27, pu_div (by omega) (by have := hD.2.1; omega)]
  refine dq_ck hw0 (dq_ck (dq_NA_ok N1 (k := 1) rfl (by omega) (by omega)) (dq_lt ?_))
  have N2 := dq_NA_set N1 (k := 1) (v := Int32.ofNat (cc / w)) rfl (by rw [D1])
  generalize dw_pi Z1 q 1 (Int32.ofNat (cc / w)) = Z2 at N2 ⊢
  clear N0 N1
  have hd10 : ∀ i, i < 2 → D i < 10 := by
    intro i hi
    have hd1 := hD.2.1
    have hd2 := hD.2.2.2
    have hc4 : i = 0 ∨ i = 1 := by omega
    rcases hc4 with e | e <;> subst e <;> omega
  have hq2 := N2.2.2.1
  have l3 : (dq_wd 3).length = 4 := by decide +kernel
  refine dq_ck ⟨by omega, by omega⟩ (dq_writeAll (D := D) (by decide) (by omega) N2.2.1 (fun i hi => ⟨N2.2.2.2 i hi, hd10 i hi⟩) (by omega) (dq_TX_fr N2.1 (fun _ z => z) X2) (by omega) (by omega) (fun Y6 F6 X6 => dq_ck ⟨by omega, by omega⟩ (dq_write (by decide) X6 ?_ (by omega) (fun Y7 F7 X7 => hf _ ⟨by show c + 1 ≤ _; omega, by show s + 2 ≤ _; omega, T ++ (dq_wd 3 ++ (dq_nums D 2 ++ [59])), upd A 4 (Int32.ofNat cc), ?_, fun m hm => ?_, ?_⟩))))
  · rw [List.length_append, List.length_append, dq_nums_len, l3]; omega
  · have eT : (T ++ (dq_wd 3 ++ dq_nums D 2)) ++ dq_wd 29 = T ++ (dq_wd 3 ++ (dq_nums D 2 ++ [59])) := by rw [dq_l29]; simp only [List.append_assoc]
    rw [eT] at X7
    have ec : D 1 * w + D 0 = cc := by rw [D0, D1]; exact ce.symm
    have PR := dq_PR_team (D := D) P1 AW1 X7.2.2.1 (by rw [D0]; exact cx) (by rw [D1]; exact cy) ⟨hd10 0 (by omega), hd10 1 (by omega)⟩ h4 (by rw [ec]; exact hl)
    rw [ec] at PR
    refine dq_RI_wr C W2 (dq_wr_tr (dq_wr_no N2.1) (dq_wr_tr F6 F7)) X7 I2 th1 f2 ⟨PR.1, PR.2, ?_, (pu_v_cong (pu_upd_n (by omega))).trans v2, (pu_v_cong (pu_upd_n (by omega))).trans v3⟩ hD
    unfold pu_land
    rw [pu_upd_n (by omega)]; exact L1
  · rw [pu_upd_n (by omega)]; exact hMn m hm
  · rw [List.length_append, dq_nl 3 _ (k := 4) l3 dq_n59]; omega
end DQRT
