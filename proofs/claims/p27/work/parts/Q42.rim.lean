/-! randomIsland: a mark statement -/
section DQRM
variable {Y Y0 Y' Y'' Ya Yb : dw_S} {th : Nat} {ι : Nat → Nat} {A A' : Nat → Int32} {w h NB nb NC nc n c s bf r q w0 h0 nb0 nc0 cn0 m cc : Nat} {a0 : Nat → Int32} {hist0 : Nat → Nat → Int32} {err0 : Int32} {T T' P : List Nat}
theorem dq_ST_fr {t : Nat} {W : List Nat} (B : dq_ST Y0 t W Y) (F : dq_fr dq_no dq_no Y Y') : dq_ST Y0 t W Y' := by
  obtain ⟨b1, b2, b3, v, b4, b5, b6, b7, b8, b9, b10⟩ := B
  exact ⟨dq_fr_tr b1 F, b2, dq_is_fr F b3, v, b4, (F.2.2.2.2 t 0 b3.1 (fun z => z)).trans b5, dq_A1_fr F b6, (F.2.2.2.1 t 1 b3.1 (fun z => z)).trans b7, b8, b9, fun i hi => (F.2.2.2.1 v i b6.1.1 (fun z => z)).trans (b10 i hi)⟩
theorem dq_l32 : (dq_wd 32).length = 5 := by decide +kernel
set_option maxHeartbeats 1000000 in
theorem dq_riMc_ok {K : Int32 × dw_S × Nat × Nat → Prop} (C : dq_RC Y0 bf r n) (R : dq_RI Y0 bf r th w0 h0 nb0 nc0 a0 cn0 hist0 err0 T A w h NB nb 0 0 ι Y) (hm : m < 8) (hcc : cc < w * h) (hl : pu_land A cc = true) (h8 : A (808 + m) = -1) (hL : T.length < 400) (hc : c + 5 ≤ 300) (hs : s + 58 ≤ 2600) (hK : ∀ T' Y', dq_RI Y0 bf r th w0 h0 nb0 nc0 a0 cn0 hist0 err0 T' (upd A (808 + m) (Int32.ofNat cc)) w h NB nb 0 0 ι Y' → T'.length = T.length + 11 → K (Int32.ofNat m + (1 : Int32), Y', c + 1 + 1 + 2 + 1, s + 4 + 16 + 36 + 2)) : dq_riMc n bf th (Int32.ofNat m) (Int32.ofNat cc) Y c s K := by
  have hD := R.2.2.2.2.2.2
  obtain ⟨hwh, hwh2, hwp, hw0⟩ := dq_RD_b hD
  have hn := C.2.2.2.2
  unfold dq_riMc
  obtain ⟨u1, u2, u3⟩ := dq_RI_n C R
  obtain ⟨-, cy, cx, ce⟩ := pu_cell hcc
  obtain ⟨W1, X1, ⟨P1, AW1, L1, v2, v3⟩, I1, th1, f1, -⟩ := id R
  have f1' := dq_fsh0.mp f1
  have e2 := f1'.1 2 (by omega)
  have hnb : nb ≤ 8 := by rw [← v2]; exact AW1.2.1.2.1
  obtain ⟨Is, ⟨g0, g1, g7, g8, g9, g10⟩, ⟨-, -, r4, -⟩, ⟨⟨m1, m2⟩, ⟨m3, m4⟩, m5, m6⟩, -⟩ := id I1
  refine dq_ck Is (dq_nn r4 (dq_ck (dq_A1_ok m5 hm (by omega)) (dq_lt ?_)))
  rw [pu_n (show m < 2147483648 by omega)]
  have hlow : ∀ j, j ≠ 808 + m → dq_aT (upd A (808 + m) (Int32.ofNat cc)) j = dq_aT A j := fun j hj => by
    by_cases ej : j = 4
    · rw [ej, dq_aT_4, dq_aT_4, pu_upd_n (by omega)]
    · rw [dq_aT_n ej, dq_aT_n ej, pu_upd_n hj]
  have hin : dq_aT (upd A (808 + m) (Int32.ofNat cc)) (808 + m) = Int32.ofNat cc := by rw [dq_aT_n (by omega), pu_upd_s]
  have F2 : dq_fr (fun k _ => k = ι 2) dq_no Y (dw_pi Y (ι 2) m (Int32.ofNat cc)) := dq_fr_pi dq_fr_refl (fun _ => rfl)
  have x2 : th ≠ ι 2 := dq_is_ne Is m5.1 (by decide)
  have x0 : ι 0 ≠ ι 2 := dq_is_ne m1.1 m5.1 (by decide)
  have I2 : dq_P (dw_pi Y (ι 2) m (Int32.ofNat cc)) th ι (dq_aT (upd A (808 + m) (Int32.ofNat cc))) w h NB nb 0 0 := by
    refine dq_P_chg I1 (by omega) F2 (fun k j z => Or.inr (Or.inr z)) ⟨?_, ?_, ?_, ?_, ?_, fun z => ?_⟩ (fun c' hc' => ?_) (fun k hk => ?_) (fun j j1 j2 j3 j4 => hlow j (by omega))
    · rw [dq_i_pi_k x2]; exact g0
    · rw [dq_i_pi_k x2]; exact g1
    · rw [dq_i_pi_k x2, hlow 4 (by omega)]; exact g7
    · rw [dq_i_pi_k x2, hlow 5 (by omega)]; exact g8
    · rw [dq_i_pi_k x2, hlow 6 (by omega)]; exact g9
    · rw [hlow 6 (by omega)] at z
      rw [dq_i_pi_k x2, hlow 7 (by omega)]; exact g10 z
    · rw [dq_i_pi_k x0, hlow _ (by omega)]; exact m2 c' hc'
    · by_cases e : k = m
      · rw [e, dq_i_pi_s, hin]
      · rw [dq_i_pi_j e, hlow _ (by omega)]; exact m6 k hk
  have f2 : dq_fsh (dw_n Y0) ι (dq_aT (upd A (808 + m) (Int32.ofNat cc))) nb 0 := dq_fsh0.mpr f1'
  have W2 : dq_wx bf r Y0 (dw_pi Y (ι 2) m (Int32.ofNat cc)) := dq_wx_fr W1 F2 (fun k j hk (z : k = ι 2) => by omega) (fun _ _ _ z => z)
  have hb0 := C.2.1.1
  have X2 := dq_TX_fr F2 (fun j (z : bf = ι 2) => by omega) X1
  have u1' : 442 ≤ dw_n (dw_pi Y (ι 2) m (Int32.ofNat cc)) := u1
  have u3' : bf < dw_n (dw_pi Y (ι 2) m (Int32.ofNat cc)) := u3
  generalize dw_pi Y (ι 2) m (Int32.ofNat cc) = Y2 at F2 I2 W2 X2 u1' u3' ⊢
  have I2s := I2.1
  have I2w := I2.2.1.1
  refine dq_ck ⟨by omega, by omega⟩ (fun q2 hq2 => dq_lt (dq_ck ⟨by omega, by omega⟩ ?_))
  refine dq_sbinit (Y0 := Y2) dq_fr_refl hq2 u1' (fun Z1 B1 => dq_ck ⟨B1.2.2.1, by omega, by omega⟩ ?_)
  refine dq_sbapp (by decide) B1 (by rw [dq_l32]; decide) (fun Z2 B2 => dq_ck ⟨B2.2.2.1, by omega, by omega⟩ ?_)
  have B2 : dq_SB Y2 q2 (dq_wd 32) Z2 := B2
  rw [dq_chr ⟨m, hm⟩]
  refine dq_sbchr (show 97 + m < 128 by omega) B2 (by rw [dq_l32]; decide) (fun Z3 B3 => dq_ck ⟨B3.2.2.1, by omega, by omega⟩ ?_)
  have lw : (dq_wd 32 ++ [97 + m]).length = 6 := by rw [List.length_append, dq_l32]; rfl
  refine dq_sbstr B3 (by rw [lw]; omega) (by rw [lw]; omega) (fun st Z4 B4 => dq_ck ⟨⟨by decide, by decide⟩, by omega, by omega⟩ (fun q hq => dq_lt ?_))
  have F4 : dq_fr dq_no dq_no Y2 Z4 := B4.1
  have n4 := F4.2.1
  obtain ⟨D, D0, D1, -, -⟩ := dq_D4 (cc % w) (cc / w) 0 0
  have I4s : dw_is Z4 th 13 := dq_is_fr F4 I2s
  have I4w : dw_i Z4 th 0 = Int32.ofNat w := (F4.2.2.2.1 th 0 I2s.1 (fun z => z)).trans I2w
  dsimp only [] at hq ⊢
  have N0 : dq_NA Z4 (dw_nw Z4 q 20 2 (fun _ => 0) (fun _ => none)) q 2 D 0 := dq_NA_new (by omega) hq
  generalize dw_nw Z4 q 20 2 (fun _ => 0) (fun _ => none) = V0 at N0 ⊢
  refine dq_ck (dq_NA_th N0 I4s).1 ?_
  rw [(dq_NA_th N0 I4s).2 0, I4w, pu_rem (by omega) (by have := hD.2.1; omega)]
  refine dq_ck hw0 (dq_ck (dq_NA_ok N0 (k := 0) rfl (by omega) (by omega)) (dq_lt ?_))
  have N1 := dq_NA_set N0 (k := 0) (v := Int32.ofNat (cc % w)) rfl (by rw [D0])
  generalize dw_pi V0 q 0 (Int32.ofNat (cc % w)) = V1 at N1 ⊢
  refine dq_ck (dq_NA_th N1 I4s).1 ?_
  rw [(dq_NA_th N1 I4s).2 0, I4w, pu_div (by omega) (by have := hD.2.1; omega)]
  refine dq_ck hw0 (dq_ck (dq_NA_ok N1 (k := 1) rfl (by omega) (by omega)) (dq_lt ?_))
  have N2 := dq_NA_set N1 (k := 1) (v := Int32.ofNat (cc / w)) rfl (by rw [D1])
  generalize dw_pi V1 q 1 (Int32.ofNat (cc / w)) = V2 at N2 ⊢
  clear N0 N1
  have hd10 : ∀ i, i < 2 → D i < 10 := by
    intro i hi
    have hd1 := hD.2.1
    have hd2 := hD.2.2.2
    have hc4 : i = 0 ∨ i = 1 := by omega
    rcases hc4 with e | e <;> subst e <;> omega
  have hq3 := N2.2.2.1
  have F5 : dq_fr dq_no dq_no Y2 V2 := dq_fr_tr F4 N2.1
  refine dq_ck ⟨by omega, by omega⟩ (dq_writeAlld (D := D) (dq_ST_fr B4 N2.1) u3' (by omega) N2.2.1 (fun i hi => ⟨N2.2.2.2 i hi, hd10 i hi⟩) (by omega) (dq_TX_fr F5 (fun _ z => z) X2) (by omega) (by omega) (fun Y6 F6 X6 => dq_ck ⟨by omega, by omega⟩ (dq_write (by decide) X6 ?_ (by omega) (fun Y7 F7 X7 => dq_lt ?_))))
  · rw [List.length_append, List.length_append, dq_nums_len, lw]; omega
  have eT : (T ++ ((dq_wd 32 ++ [97 + m]) ++ dq_nums D 2)) ++ dq_wd 29 = T ++ (dq_wd 32 ++ ([97 + m] ++ (dq_nums D 2 ++ [59]))) := by rw [dq_l29]; simp only [List.append_assoc]
  rw [eT] at X7
  have ec : D 1 * w + D 0 = cc := by rw [D0, D1]; exact ce.symm
  have PR := dq_PR_mark (D := D) hm P1 AW1 X7.2.2.1 (by rw [D0]; exact cx) (by rw [D1]; exact cy) ⟨hd10 0 (by omega), hd10 1 (by omega)⟩ h8 (by rw [ec]; exact hl)
  rw [ec] at PR
  refine hK _ _ (dq_RI_wr C W2 (dq_wr_tr (dq_wr_no F5) (dq_wr_tr F6 F7)) X7 I2 th1 f2 ⟨PR.1, PR.2, ?_, (pu_v_cong (pu_upd_n (by omega))).trans v2, (pu_v_cong (pu_upd_n (by omega))).trans v3⟩ hD) ?_
  · unfold pu_land
    rw [pu_upd_n (by omega)]; exact L1
  · rw [List.length_append, dq_nl 32 _ (k := 5) (l := 6) dq_l32 (by rw [List.length_append, dq_n59]; rfl)]
/-- the cell of a mark: on to the next land -/
theorem dq_riMb_ok {K : Int32 × dw_S × Nat × Nat → Prop} (C : dq_RC Y0 bf r n) (R : dq_RI Y0 bf r th w0 h0 nb0 nc0 a0 cn0 hist0 err0 T A w h NB nb 0 0 ι Y) (hm : m < 8) (h8 : A (808 + m) = -1) (hL : T.length < 400) (hc : c + 5 ≤ 300) (hs : s + 58 ≤ 2600) (hK : ∀ T' Y' cc, cc < w * h → pu_land A cc = true → dq_RI Y0 bf r th w0 h0 nb0 nc0 a0 cn0 hist0 err0 T' (upd A (808 + m) (Int32.ofNat cc)) w h NB nb 0 0 ι Y' → T'.length = T.length + 11 → K (Int32.ofNat m + (1 : Int32), Y', c + 1 + 1 + 2 + 1, s + 4 + 16 + 36 + 2)) : dq_riMb n bf r th (Int32.ofNat (w * h)) (Int32.ofNat m) Y c s K := by
  have hD := R.2.2.2.2.2.2
  obtain ⟨hwh, hwh2, hwp, hw0⟩ := dq_RD_b hD
  have hn := C.2.2.2.2
  unfold dq_riMb
  refine dq_ck ⟨(dq_RI_n C R).2.1, by omega, by omega⟩ (dq_below (dq_RI_n C R).2.1 (by omega) (by omega) (fun v Y1 hv F1 => dq_lt ?_))
  have R1 := dq_RI_fr C R F1 (fun k j z => Or.inl z)
  clear F1 R
  dsimp only []
  have L1 := R1.2.2.1.2.2.1
  obtain ⟨Is, -, ⟨r2, -⟩, ⟨⟨m1, m2⟩, -⟩, -⟩ := id R1.2.2.2.1
  refine dq_for (w * h - v) (fun i u => u = (Int32.ofNat m, Int32.ofNat (if i < w * h - v then v + i else 0), c, s)) (fun k i u hi hu hk => ?_) (fun k u hu => ?_) (by omega) ?_
  · subst hu
    dsimp only []
    rw [if_pos hi]
    have hci : v + i < w * h := by omega
    refine dq_ck Is (dq_nn r2 (dq_ck (dq_A1_ok m1 hci (by omega)) ?_))
    rw [pu_n (show v + i < 2147483648 by omega), m2 _ hci, dq_aT_n (by omega)]
    refine dq_if (fun z => ?_) (fun z => ?_)
    · exact dq_riMc_ok C R1 hm hci (decide_eq_true z) h8 hL hc hs (fun T' Y' R' hl => hK T' Y' _ hci (decide_eq_true z) R' hl)
    · refine dq_ck (pu_ne0 (by omega) (by omega)) (dq_lt (hk _ ?_))
      have e : (Int32.ofNat (v + i) + (1 : Int32)) - (Int32.ofNat (v + i) + (1 : Int32)) / Int32.ofNat (w * h) * Int32.ofNat (w * h) = Int32.ofNat ((v + i + 1) % (w * h)) := by
        rw [show Int32.ofNat (v + i) + (1 : Int32) = Int32.ofNat (v + i + 1) from pu_add _ 1, pu_rem (by omega) (by omega)]
      rw [e]
      by_cases e2 : i + 1 < w * h - v
      · rw [if_pos e2, Nat.mod_eq_of_lt (by omega)]; rfl
      · rw [if_neg e2, show v + i + 1 = w * h by omega, Nat.mod_self]
  · subst hu
    dsimp only []
    rw [if_neg (Nat.lt_irrefl _)]
    have hci : 0 < w * h := by omega
    refine dq_ck Is (dq_nn r2 (dq_ck (dq_A1_ok m1 hci (by omega)) ?_))
    rw [pu_n (show 0 < 2147483648 by omega), m2 _ hci, dq_aT_n (by omega)]
    exact dq_ift (of_decide_eq_true L1) (dq_riMc_ok C R1 hm hci L1 h8 hL hc hs (fun T' Y' R' hl => hK T' Y' _ hci L1 R' hl))
  · rw [if_pos (by omega)]; rfl
/-- the marks' cells -/
def dq_MK (A : Nat → Int32) (w h mk : Nat) : Prop := (∀ m, m < mk → ∃ cc, cc < w * h ∧ A (808 + m) = Int32.ofNat cc ∧ pu_land A cc = true) ∧ ∀ m, mk ≤ m → m < 8 → A (808 + m) = -1
theorem dq_MK_set (M : dq_MK A w h m) (hw : w * h ≤ 400) (hcc : cc < w * h) (hl : pu_land A cc = true) : dq_MK (upd A (808 + m) (Int32.ofNat cc)) w h (m + 1) := by
  have el : ∀ x, x < w * h → pu_land (upd A (808 + m) (Int32.ofNat cc)) x = pu_land A x := fun x hx => by unfold pu_land; rw [pu_upd_n (by omega)]
  refine ⟨fun k hk => ?_, fun k h1 h2 => by rw [pu_upd_n (by omega)]; exact M.2 k (by omega) h2⟩
  by_cases e : k = m
  · subst e
    exact ⟨cc, hcc, pu_upd_s, by rw [el _ hcc]; exact hl⟩
  · obtain ⟨x, x1, x2, x3⟩ := M.1 k (by omega)
    exact ⟨x, x1, by rw [pu_upd_n (by omega)]; exact x2, by rw [el _ x1]; exact x3⟩
theorem dq_riM_ok {Q : Option Nat × dw_S → Prop} (C : dq_RC Y0 bf r n) (R : dq_RI Y0 bf r th w0 h0 nb0 nc0 a0 cn0 hist0 err0 T A w h NB nb 0 0 ι Y) (hm : ∀ m, m < 8 → A (808 + m) = -1) (h4 : A 4 = -1) (hL : T.length < 360) (hc : c + 15 ≤ 300) (hs : s + 174 ≤ 2600) (hE : ∀ mk T' A' Y', 1 ≤ mk → mk ≤ 3 → dq_RI Y0 bf r th w0 h0 nb0 nc0 a0 cn0 hist0 err0 T' A' w h NB nb 0 0 ι Y' → dq_MK A' w h mk → A' 4 = -1 → T'.length ≤ T.length + 33 → dq_riT n bf r th (Int32.ofNat mk) Y' (c + 5 * mk) (s + 58 * mk) Q) : dq_riM n bf r th (Int32.ofNat (w * h)) Y c s Q := by
  have hD := R.2.2.2.2.2.2
  obtain ⟨hwh, hwh2, hwp, hw0⟩ := dq_RD_b hD
  have hn := C.2.2.2.2
  unfold dq_riM
  refine dq_ck ⟨(dq_RI_n C R).2.1, by omega, by omega⟩ (dq_below (b := 3) (dq_RI_n C R).2.1 (by omega) (by omega) (fun v Y1 hv F1 => dq_lt (dq_lt ?_)))
  have R1 := dq_RI_fr C R F1 (fun k j z => Or.inl z)
  clear F1 R
  dsimp only []
  rw [show (1 : Int32) + Int32.ofNat v = Int32.ofNat (1 + v) from pu_add 1 v]
  refine dq_for (1 + v) (fun i u => u.1 = Int32.ofNat i ∧ u.2.2.1 = c + 5 * i ∧ u.2.2.2 = s + 58 * i ∧ ∃ T' A', dq_RI Y0 bf r th w0 h0 nb0 nc0 a0 cn0 hist0 err0 T' A' w h NB nb 0 0 ι u.2.1 ∧ dq_MK A' w h i ∧ A' 4 = -1 ∧ T'.length = T.length + 11 * i) (fun k i u hi hu hk => ?_) (fun k u hu => ?_) (by omega) ⟨rfl, rfl, rfl, T, A, R1, ⟨fun m z => absurd z (Nat.not_lt_zero _), fun m _ z => hm m z⟩, h4, rfl⟩
  all_goals
    obtain ⟨x1, Yv, cv, sv⟩ := u
    obtain ⟨ex, e1, e2, T', A', R', M', h4', hl'⟩ := hu
    dsimp only [] at ex e1 e2 R'
    dsimp only []
    subst ex e1 e2
  · refine dq_iff (by rw [pu_le (by omega) (by omega)]; omega) ?_
    exact dq_riMb_ok C R' (by omega) (M'.2 i (Nat.le_refl _) (by omega)) (by omega) (by omega) (by omega) (fun T2 Y2 cc hcc hl R2 l2 => hk _ ⟨pu_add i 1, by show c + 5 * i + 1 + 1 + 2 + 1 = _; omega, by show s + 58 * i + 4 + 16 + 36 + 2 = _; omega, T2, _, R2, dq_MK_set M' (by omega) hcc hl, by rw [pu_upd_n (by omega)]; exact h4', by omega⟩)
  · exact dq_ift ((pu_le (by omega) (by omega)).mpr (Nat.le_refl _)) (hE (1 + v) T' A' Yv (by omega) (by omega) R' M' h4' (by omega))
end DQRM
