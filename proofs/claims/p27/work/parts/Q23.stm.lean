/-! the law's statements, read -/
section DQL
variable {B : Nat → Nat} {L p s k x w h : Nat} {A : Nat → Int32} {D D' : Nat → Nat}
theorem dq_wdL : ∀ x : Fin 21, ((List.range (dq_wd x.val).length).all fun i => decide (pu_kdb ((dq_wd x.val).getD i 0) = 1)) = true ∧ 0 < (dq_wd x.val).length := by decide +kernel
theorem dq_wdK {x i : Nat} (hx : x < 21) (hi : i < (dq_wd x).length) : pu_kdb ((dq_wd x).getD i 0) = 1 := by
  have := List.all_eq_true.mp (dq_wdL ⟨x, hx⟩).1 i (List.mem_range.mpr hi)
  exact of_decide_eq_true this
theorem dq_word {x l : Nat} (hx : x < 21) (hl : (dq_wd x).length = l) (h : dq_at B p (dq_wd x)) (hL : p + l + 1 < L) (hc : B (p + l) = 32) (hd : B (p + l + 1) ≠ 32) : pu_nx B L p = p + l + 1 ∧ ∀ y, y < 33 → pu_isW B L p y = decide (dq_wd x = dq_wd y) := by
  subst hl
  have t := dq_tok_s (dq_wdL ⟨x, hx⟩).2 h hL (fun i hi => dq_wdK hx hi) (by decide) hc hd
  exact ⟨t.2.2.2.2.2, fun y hy => dq_isW t hy (fun i => by have := dq_wd_lt (i := i) (show x < 33 by omega); omega)⟩
theorem dq_eN {d lo hi : Nat} (t : pu_tk B L p = 2 ∧ pu_num B L p = d) (h1 : lo ≤ d) (h2 : d ≤ hi) : pu_eN B L none (lo : Nat) (hi : Nat) p = none := pu_fs_y ⟨t.1, by rw [t.2]; omega, by rw [t.2]; omega⟩
theorem dq_dgS {d : Nat} (hd : d < 10) (h0 : B p = 48 + d) (hL : p + 2 < L) (hc : B (p + 1) = 32) (hn : B (p + 2) ≠ 32) : (pu_tk B L p = 2 ∧ pu_num B L p = d) ∧ pu_nx B L p = p + 2 := by
  have t := dq_tok_ds hd h0 hL hc hn
  exact ⟨dq_dig hd t, t.2.2.2.2.2⟩
theorem dq_dgN {d : Nat} (hd : d < 10) (h0 : B p = 48 + d) (hL : p + 1 < L) (hc : B (p + 1) = 59) : (pu_tk B L p = 2 ∧ pu_num B L p = d) ∧ pu_nx B L p = p + 1 := by
  have t := dq_tok_dn hd h0 hL hc
  exact ⟨dq_dig hd t, t.2.2.2.2.2⟩
theorem dq_n32 {d : Nat} : 48 + d ≠ 32 := by omega
theorem dq_at_b {P : List Nat} {i v : Nat} (h : dq_at B p P) (hi : i < P.length) (hv : P.getD i 0 = v) : B (p + i) = v := (h i hi).trans hv
/-- the header -/
theorem dq_rdMap (hat : dq_at B 0 (dq_wd 5 ++ (dq_nums D 2 ++ [59]))) (hL : 9 ≤ L) (hn : 9 < L → B 9 ≠ 32) (h0 : 1 ≤ D 0 ∧ D 0 < 10) (h1 : 1 ≤ D 1 ∧ D 1 < 10) : pu_Xm B L = (none, 9, pu_A0 (D 0) (D 1)) ∧ pu_wN B L = D 0 ∧ pu_hN B L = D 1 := by
  have a1 := dq_at_l hat
  have a2 := dq_at_r hat
  have l5 : (dq_wd 5).length = 4 := by decide +kernel
  rw [l5] at a2
  have b0 : B (0 + 4 + 0) = 32 := dq_at_b a2 (Nat.le_of_ble_eq_true rfl) rfl
  have b1 : B (0 + 4 + 1) = 48 + D 0 := dq_at_b a2 (Nat.le_of_ble_eq_true rfl) rfl
  have b2 : B (0 + 4 + 2) = 32 := dq_at_b a2 (Nat.le_of_ble_eq_true rfl) rfl
  have b3 : B (0 + 4 + 3) = 48 + D 1 := dq_at_b a2 (Nat.le_of_ble_eq_true rfl) rfl
  have b4 : B (0 + 4 + 4) = 59 := dq_at_b a2 (Nat.le_of_ble_eq_true rfl) rfl
  have c0 : B 0 = 119 := by
    have := dq_at_b (i := 0) (v := 119) a1 (by rw [l5]; omega) (by decide +kernel)
    exact this
  obtain ⟨n0, i0⟩ := dq_word (L := L) (x := 5) (by decide) l5 a1 (by omega) b0 (by rw [b1]; exact dq_n32)
  obtain ⟨d1, n1⟩ := dq_dgS (L := L) (p := 5) h0.2 b1 (by omega) b2 (by rw [b3]; exact dq_n32)
  obtain ⟨d2, n2⟩ := dq_dgN (L := L) (p := 7) h1.2 b3 (by omega) b4
  obtain ⟨s1, s2⟩ := dq_semi (L := L) (p := 8) b4 (by omega) hn
  have z0 : pu_sk B L 0 = 0 := dq_sk0 (fun _ => by rw [c0]; decide)
  have k1 : pu_nk B L 1 0 = 5 := n0
  have k2 : pu_nk B L 2 0 = 7 := by show pu_nx B L (pu_nk B L 1 0) = 7; rw [k1]; exact n1
  have k3 : pu_nk B L 3 0 = 8 := by show pu_nx B L (pu_nk B L 2 0) = 8; rw [k2]; exact n2
  have k4 : pu_nk B L 4 0 = 9 := by show pu_nx B L (pu_nk B L 3 0) = 9; rw [k3]; exact s2
  have hw : pu_wN B L = D 0 := by unfold pu_wN; rw [z0, k1]; exact d1.2
  have hh : pu_hN B L = D 1 := by unfold pu_hN; rw [z0, k2]; exact d2.2
  refine ⟨?_, hw, hh⟩
  unfold pu_Xm
  rw [z0, k1, k2, k4, d1.2, d2.2]
  have e : pu_eMap B L 0 = none := by
    unfold pu_eMap
    rw [k1, k2, k3, pu_fs_y (show pu_isW B L 0 5 = true by rw [i0 5 (by decide)]; decide +kernel), dq_eN d1 h0.1 (by omega), dq_eN d2 h1.1 (by omega)]
    exact pu_fs_y s1
  rw [e]
/-- an area -/
theorem dq_rdArea {q x0 y0 x1 y1 : Nat} (t0 : pu_tk B L q = 2 ∧ pu_num B L q = x0) (t1 : pu_tk B L (pu_nk B L 1 q) = 2 ∧ pu_num B L (pu_nk B L 1 q) = y0) (t2 : pu_tk B L (pu_nk B L 2 q) = 2 ∧ pu_num B L (pu_nk B L 2 q) = x1) (t3 : pu_tk B L (pu_nk B L 3 q) = 2 ∧ pu_num B L (pu_nk B L 3 q) = y1) (hx : x0 ≤ x1) (hx1 : x1 < w) (hy : y0 ≤ y1) (hy1 : y1 < h) : pu_eA B L w h none q = none := by
  unfold pu_eA
  rw [dq_eN t0 (Nat.zero_le _) (by omega), dq_eN t1 (Nat.zero_le _) (by omega), t0.2, t1.2, dq_eN t2 hx (by omega)]
  exact dq_eN t3 hy (by omega)
theorem dq_rdWater (hat : dq_at B p (dq_wd 0 ++ (dq_nums D 4 ++ [59]))) (hL : p + 14 ≤ L) (hn : p + 14 < L → B (p + 14) ≠ 32) (h2 : D 2 = D 0) (h3 : D 3 = D 1) (hx : D 0 < w) (hy : D 1 < h) (hd : D 0 < 10 ∧ D 1 < 10) (hon : ¬ pu_onA A w (D 0) (D 1) (D 0) (D 1)) (hl : ∃ c, c < w * h ∧ pu_land (pu_aW A w h (D 0) (D 1) (D 0) (D 1)) c = true) : pu_stm B L w h p A = (none, p + 14, pu_aW A w h (D 0) (D 1) (D 0) (D 1)) := by
  have a1 := dq_at_l hat
  have a2 := dq_at_r hat
  have l0 : (dq_wd 0).length = 5 := by decide +kernel
  rw [l0] at a2
  have b0 : B (p + 5 + 0) = 32 := dq_at_b a2 (Nat.le_of_ble_eq_true rfl) rfl
  have b1 : B (p + 5 + 1) = 48 + D 0 := dq_at_b a2 (Nat.le_of_ble_eq_true rfl) rfl
  have b2 : B (p + 5 + 2) = 32 := dq_at_b a2 (Nat.le_of_ble_eq_true rfl) rfl
  have b3 : B (p + 5 + 3) = 48 + D 1 := dq_at_b a2 (Nat.le_of_ble_eq_true rfl) rfl
  have b4 : B (p + 5 + 4) = 32 := dq_at_b a2 (Nat.le_of_ble_eq_true rfl) rfl
  have b5 : B (p + 5 + 5) = 48 + D 2 := dq_at_b a2 (Nat.le_of_ble_eq_true rfl) rfl
  have b6 : B (p + 5 + 6) = 32 := dq_at_b a2 (Nat.le_of_ble_eq_true rfl) rfl
  have b7 : B (p + 5 + 7) = 48 + D 3 := dq_at_b a2 (Nat.le_of_ble_eq_true rfl) rfl
  have b8 : B (p + 5 + 8) = 59 := dq_at_b a2 (Nat.le_of_ble_eq_true rfl) rfl
  obtain ⟨n0, i0⟩ := dq_word (L := L) (x := 0) (by decide) l0 a1 (by omega) b0 (by rw [b1]; exact dq_n32)
  obtain ⟨d1, n1⟩ := dq_dgS (L := L) (p := p + 5 + 1) hd.1 b1 (by omega) b2 (by show B (p + 5 + 3) ≠ 32; rw [b3]; exact dq_n32)
  obtain ⟨d2, n2⟩ := dq_dgS (L := L) (p := p + 5 + 3) hd.2 b3 (by omega) b4 (by show B (p + 5 + 5) ≠ 32; rw [b5]; exact dq_n32)
  obtain ⟨d3, n3⟩ := dq_dgS (L := L) (p := p + 5 + 5) (by rw [h2]; exact hd.1) b5 (by omega) b6 (by show B (p + 5 + 7) ≠ 32; rw [b7]; exact dq_n32)
  obtain ⟨d4, n4⟩ := dq_dgN (L := L) (p := p + 5 + 7) (by rw [h3]; exact hd.2) b7 (by omega) b8
  obtain ⟨s1, s2⟩ := dq_semi (L := L) (p := p + 5 + 8) b8 (by omega) hn
  have k1 : pu_nk B L 1 (p + 5 + 1) = p + 5 + 3 := n1
  have k2 : pu_nk B L 2 (p + 5 + 1) = p + 5 + 5 := by show pu_nx B L (pu_nk B L 1 _) = _; rw [k1]; exact n2
  have k3 : pu_nk B L 3 (p + 5 + 1) = p + 5 + 7 := by show pu_nx B L (pu_nk B L 2 _) = _; rw [k2]; exact n3
  have k4 : pu_nk B L 4 (p + 5 + 1) = p + 5 + 8 := by show pu_nx B L (pu_nk B L 3 _) = _; rw [k3]; exact n4
  have k5 : pu_nk B L 5 (p + 5 + 1) = p + 14 := by show pu_nx B L (pu_nk B L 4 _) = _; rw [k4]; exact s2
  have hq : pu_qW B L w h A (p + 5 + 1) = pu_aW A w h (D 0) (D 1) (D 0) (D 1) := by
    unfold pu_qW
    rw [k1, k2, k3, d1.2, d2.2, d3.2, d4.2, h2, h3]
  unfold pu_stm
  rw [if_pos (show pu_isW B L p 0 = true by rw [i0 0 (by decide)]; decide +kernel), n0, k5, hq]
  have e : pu_eW B L w h A (p + 5 + 1) = none := by
    unfold pu_eW pu_eW2
    rw [hq, k4, dq_rdArea (x0 := D 0) (y0 := D 1) (x1 := D 0) (y1 := D 1) d1 (by rw [k1]; exact d2) (by rw [k2, ← h2]; exact d3) (by rw [k3, ← h3]; exact d4) (Nat.le_refl _) hx (Nat.le_refl _) hy, k1, k2, k3, d1.2, d2.2, d3.2, d4.2, h2, h3, pu_fs_y hon, pu_fs_y s1]
    exact pu_fs_y hl
  rw [e]
/-- a cell of land told -/
theorem dq_rdLand {g : Nat → Bool} {q x y : Nat} (t0 : pu_tk B L q = 2 ∧ pu_num B L q = x) (t1 : pu_tk B L (pu_nk B L 1 q) = 2 ∧ pu_num B L (pu_nk B L 1 q) = y) (hx : x < w) (hy : y < h) (hg : g (y * w + x) = true) : pu_eL B L w h g none q = none := by
  unfold pu_eL
  rw [dq_eN t0 (Nat.zero_le _) (by omega), dq_eN t1 (Nat.zero_le _) (by omega), t0.2, t1.2]
  exact pu_fs_y hg
theorem dq_rdTeam (hat : dq_at B p (dq_wd 3 ++ (dq_nums D 2 ++ [59]))) (hL : p + 9 ≤ L) (hn : p + 9 < L → B (p + 9) ≠ 32) (hx : D 0 < w) (hy : D 1 < h) (hd : D 0 < 10 ∧ D 1 < 10) (h4 : A 4 = -1) (hl : pu_land A (D 1 * w + D 0) = true) : pu_stm B L w h p A = (none, p + 9, upd A 4 (Int32.ofNat (D 1 * w + D 0))) := by
  have a1 := dq_at_l hat
  have a2 := dq_at_r hat
  have l0 : (dq_wd 3).length = 4 := by decide +kernel
  rw [l0] at a2
  have b0 : B (p + 4 + 0) = 32 := dq_at_b a2 (Nat.le_of_ble_eq_true rfl) rfl
  have b1 : B (p + 4 + 1) = 48 + D 0 := dq_at_b a2 (Nat.le_of_ble_eq_true rfl) rfl
  have b2 : B (p + 4 + 2) = 32 := dq_at_b a2 (Nat.le_of_ble_eq_true rfl) rfl
  have b3 : B (p + 4 + 3) = 48 + D 1 := dq_at_b a2 (Nat.le_of_ble_eq_true rfl) rfl
  have b4 : B (p + 4 + 4) = 59 := dq_at_b a2 (Nat.le_of_ble_eq_true rfl) rfl
  obtain ⟨n0, i0⟩ := dq_word (L := L) (x := 3) (by decide) l0 a1 (by omega) b0 (by rw [b1]; exact dq_n32)
  obtain ⟨d1, n1⟩ := dq_dgS (L := L) (p := p + 4 + 1) hd.1 b1 (by omega) b2 (by show B (p + 4 + 3) ≠ 32; rw [b3]; exact dq_n32)
  obtain ⟨d2, n2⟩ := dq_dgN (L := L) (p := p + 4 + 3) hd.2 b3 (by omega) b4
  obtain ⟨s1, s2⟩ := dq_semi (L := L) (p := p + 4 + 4) b4 (by omega) hn
  have k1 : pu_nk B L 1 (p + 4 + 1) = p + 4 + 3 := n1
  have m1 : pu_nk B L 1 p = p + 4 + 1 := n0
  have m2 : pu_nk B L 2 p = p + 4 + 3 := by show pu_nx B L (pu_nk B L 1 p) = _; rw [m1]; exact n1
  have m3 : pu_nk B L 3 p = p + 4 + 4 := by show pu_nx B L (pu_nk B L 2 p) = _; rw [m2]; exact n2
  have m4 : pu_nk B L 4 p = p + 9 := by show pu_nx B L (pu_nk B L 3 p) = _; rw [m3]; exact s2
  unfold pu_stm
  rw [if_neg (by rw [i0 0 (by decide)]; decide +kernel), if_neg (by rw [i0 1 (by decide)]; decide +kernel), if_neg (by rw [i0 2 (by decide)]; decide +kernel), if_pos (show pu_isW B L p 3 = true by rw [i0 3 (by decide)]; decide +kernel), m4]
  have e : pu_eT B L w h A p = none := by
    unfold pu_eT pu_eT2
    rw [n0, m3, pu_fs_y h4, dq_rdLand (x := D 0) (y := D 1) d1 (by rw [k1]; exact d2) hx hy hl]
    exact pu_fs_y s1
  have hq : pu_qT B L w A p = upd A 4 (Int32.ofNat (D 1 * w + D 0)) := by
    unfold pu_qT pu_cN
    rw [n0, k1, d1.2, d2.2]
  rw [e, hq]
theorem dq_rdMark {m : Nat} (hm : m < 8) (hat : dq_at B p (dq_wd 32 ++ ([97 + m] ++ (dq_nums D 2 ++ [59])))) (hL : p + 11 ≤ L) (hn : p + 11 < L → B (p + 11) ≠ 32) (hx : D 0 < w) (hy : D 1 < h) (hd : D 0 < 10 ∧ D 1 < 10) (h8 : A (808 + m) = -1) (hl : pu_land A (D 1 * w + D 0) = true) : pu_stm B L w h p A = (none, p + 11, upd A (808 + m) (Int32.ofNat (D 1 * w + D 0))) := by
  have e32 : dq_wd 32 = dq_wd 2 ++ [32] := by decide +kernel
  rw [e32, List.append_assoc] at hat
  have a1 := dq_at_l hat
  have a2 := dq_at_r hat
  have l0 : (dq_wd 2).length = 4 := by decide +kernel
  rw [l0] at a2
  have b0 : B (p + 4 + 0) = 32 := dq_at_b a2 (Nat.le_of_ble_eq_true rfl) rfl
  have b1 : B (p + 4 + 1) = 97 + m := dq_at_b a2 (Nat.le_of_ble_eq_true rfl) rfl
  have b2 : B (p + 4 + 2) = 32 := dq_at_b a2 (Nat.le_of_ble_eq_true rfl) rfl
  have b3 : B (p + 4 + 3) = 48 + D 0 := dq_at_b a2 (Nat.le_of_ble_eq_true rfl) rfl
  have b4 : B (p + 4 + 4) = 32 := dq_at_b a2 (Nat.le_of_ble_eq_true rfl) rfl
  have b5 : B (p + 4 + 5) = 48 + D 1 := dq_at_b a2 (Nat.le_of_ble_eq_true rfl) rfl
  have b6 : B (p + 4 + 6) = 59 := dq_at_b a2 (Nat.le_of_ble_eq_true rfl) rfl
  obtain ⟨n0, i0⟩ := dq_word (L := L) (x := 2) (by decide) l0 a1 (by omega) b0 (by rw [b1]; omega)
  have tm : dq_tok B L (p + 4 + 1) 1 [97 + m] (p + 4 + 1 + 1 + 1) := by
    refine dq_tok_s (by show 0 < 1; omega) (fun i hi => ?_) (by show p + 4 + 1 + 1 + 1 < L; omega) (fun i hi => ?_) (by decide) b2 (by show B (p + 4 + 3) ≠ 32; rw [b3]; exact dq_n32)
    · have hi : i < 1 := hi
      have e : i = 0 := by omega
      subst e
      exact b1
    · have hi : i < 1 := hi
      have e : i = 0 := by omega
      subst e
      exact pu_let.mpr ⟨by show 97 ≤ 97 + m; omega, by show 97 + m ≤ 122; omega⟩
  obtain ⟨-, -, -, t1, t2, tn⟩ := tm
  obtain ⟨d1, n1⟩ := dq_dgS (L := L) (p := p + 4 + 3) hd.1 b3 (by omega) b4 (by show B (p + 4 + 5) ≠ 32; rw [b5]; exact dq_n32)
  obtain ⟨d2, n2⟩ := dq_dgN (L := L) (p := p + 4 + 5) hd.2 b5 (by omega) b6
  obtain ⟨s1, s2⟩ := dq_semi (L := L) (p := p + 4 + 6) b6 (by omega) hn
  have k1 : pu_nk B L 1 (p + 4 + 1) = p + 4 + 3 := tn
  have k2 : pu_nk B L 2 (p + 4 + 1) = p + 4 + 5 := by show pu_nx B L (pu_nk B L 1 _) = _; rw [k1]; exact n1
  have k3 : pu_nk B L 3 (p + 4 + 1) = p + 4 + 6 := by show pu_nx B L (pu_nk B L 2 _) = _; rw [k2]; exact n2
  have k4 : pu_nk B L 4 (p + 4 + 1) = p + 11 := by show pu_nx B L (pu_nk B L 3 _) = _; rw [k3]; exact s2
  have j1 : pu_nk B L 1 (p + 4 + 3) = p + 4 + 5 := n1
  unfold pu_stm
  rw [if_neg (by rw [i0 0 (by decide)]; decide +kernel), if_neg (by rw [i0 1 (by decide)]; decide +kernel), if_pos (show pu_isW B L p 2 = true by rw [i0 2 (by decide)]; decide +kernel), n0]
  have hb : B (p + 4 + 1) - 97 = m := by rw [b1]; omega
  have hisM : pu_isM B L (p + 4 + 1) := ⟨t1, by rw [t2]; show p + 4 + 1 + 1 - (p + 4 + 1) = 1; omega, by rw [b1]; omega⟩
  have e : pu_eM B L w h A (p + 4 + 1) = none := by
    unfold pu_eM pu_eM2
    rw [k1, k3, hb, pu_fs_y hisM, pu_fs_y h8, dq_rdLand (x := D 0) (y := D 1) d1 (by rw [j1]; exact d2) hx hy hl]
    exact pu_fs_y s1
  have hq : pu_qM B L w A (p + 4 + 1) = upd A (808 + m) (Int32.ofNat (D 1 * w + D 0)) := by
    unfold pu_qM pu_cN
    rw [k1, hb, j1, d1.2, d2.2]
  rw [e, hq, k4]
theorem dq_rdBend {r : Bool} {t : Nat} (hat : dq_at B p (dq_wd 1 ++ (dq_nums D 4 ++ (dq_wd (if r then 31 else 30) ++ ([32, 48 + t] ++ [59]))))) (hL : p + (20 + (if r then 1 else 0)) ≤ L) (hn : p + (20 + (if r then 1 else 0)) < L → B (p + (20 + (if r then 1 else 0))) ≠ 32) (hx : D 0 ≤ D 2) (hx1 : D 2 < w) (hy : D 1 ≤ D 3) (hy1 : D 3 < h) (hd : D 2 < 10 ∧ D 3 < 10) (ht : 1 ≤ t ∧ t ≤ 3) (h8 : pu_v A 2 ≠ 8) : pu_stm B L w h p A = (none, p + (20 + (if r then 1 else 0)), pu_aB A (D 0) (D 1) (D 2) (D 3) (if r then Int32.ofNat t else -Int32.ofNat t)) := by
  have a1 := dq_at_l hat
  have a2 := dq_at_l (dq_at_r hat)
  have a3 := dq_at_r (dq_at_r hat)
  have l0 : (dq_wd 1).length = 4 := by decide +kernel
  rw [dq_nums_len] at a3
  rw [l0] at a2 a3
  have e6 : dq_wd (if r then 31 else 30) = 32 :: dq_wd (if r then 7 else 6) := by cases r <;> decide +kernel
  have l6 : (dq_wd (if r then 7 else 6)).length = 4 + (if r then 1 else 0) := by cases r <;> decide +kernel
  rw [e6] at a3
  have b0 : B (p + 4 + 0) = 32 := dq_at_b a2 (Nat.le_of_ble_eq_true rfl) rfl
  have b1 : B (p + 4 + 1) = 48 + D 0 := dq_at_b a2 (Nat.le_of_ble_eq_true rfl) rfl
  have b2 : B (p + 4 + 2) = 32 := dq_at_b a2 (Nat.le_of_ble_eq_true rfl) rfl
  have b3 : B (p + 4 + 3) = 48 + D 1 := dq_at_b a2 (Nat.le_of_ble_eq_true rfl) rfl
  have b4 : B (p + 4 + 4) = 32 := dq_at_b a2 (Nat.le_of_ble_eq_true rfl) rfl
  have b5 : B (p + 4 + 5) = 48 + D 2 := dq_at_b a2 (Nat.le_of_ble_eq_true rfl) rfl
  have b6 : B (p + 4 + 6) = 32 := dq_at_b a2 (Nat.le_of_ble_eq_true rfl) rfl
  have b7 : B (p + 4 + 7) = 48 + D 3 := dq_at_b a2 (Nat.le_of_ble_eq_true rfl) rfl
  have b8 : B (p + 4 + 8) = 32 := dq_at_b (i := 0) a3 (by show 0 < _ + 1; omega) rfl
  have a4 : dq_at B (p + 4 + 8 + 1) (dq_wd (if r then 7 else 6) ++ ([32, 48 + t] ++ [59])) := dq_at_r (P := [32]) (R := dq_wd (if r then 7 else 6) ++ ([32, 48 + t] ++ [59])) a3
  have a5 := dq_at_l a4
  have a6 := dq_at_r a4
  have hx7 : (if r then 7 else 6) < 21 := by cases r <;> decide
  generalize hu : (if r = true then 1 else 0) = u at *
  rw [l6] at a6
  have c0 : B (p + 4 + 8 + 1 + (4 + u) + 0) = 32 := dq_at_b a6 (Nat.le_of_ble_eq_true rfl) rfl
  have c1 : B (p + 4 + 8 + 1 + (4 + u) + 1) = 48 + t := dq_at_b a6 (Nat.le_of_ble_eq_true rfl) rfl
  have c2 : B (p + 4 + 8 + 1 + (4 + u) + 2) = 59 := dq_at_b a6 (Nat.le_of_ble_eq_true rfl) rfl
  have f0 : B (p + 4 + 8 + 1) ≠ 32 := by
    have e := dq_at_b (i := 0) a5 (by rw [l6]; omega) rfl
    have : (dq_wd (if r then 7 else 6)).getD 0 0 ≠ 32 := by cases r <;> decide +kernel
    rw [Nat.add_zero] at e
    rw [e]; exact this
  obtain ⟨n0, i0⟩ := dq_word (L := L) (x := 1) (by decide) l0 a1 (by omega) b0 (by rw [b1]; exact dq_n32)
  obtain ⟨d1, n1⟩ := dq_dgS (L := L) (p := p + 4 + 1) (d := D 0) (by omega) b1 (by omega) b2 (by show B (p + 4 + 3) ≠ 32; rw [b3]; exact dq_n32)
  obtain ⟨d2, n2⟩ := dq_dgS (L := L) (p := p + 4 + 3) (d := D 1) (by omega) b3 (by omega) b4 (by show B (p + 4 + 5) ≠ 32; rw [b5]; exact dq_n32)
  obtain ⟨d3, n3⟩ := dq_dgS (L := L) (p := p + 4 + 5) hd.1 b5 (by omega) b6 (by show B (p + 4 + 7) ≠ 32; rw [b7]; exact dq_n32)
  obtain ⟨d4, n4⟩ := dq_dgS (L := L) (p := p + 4 + 7) hd.2 b7 (by omega) b8 f0
  obtain ⟨n5, i5⟩ := dq_word (L := L) (x := if r then 7 else 6) hx7 l6 a5 (by omega) c0 (by rw [c1]; exact dq_n32)
  obtain ⟨d6, n6⟩ := dq_dgN (L := L) (p := p + 4 + 8 + 1 + (4 + u) + 1) (d := t) (by omega) c1 (by omega) c2
  obtain ⟨s1, s2⟩ := dq_semi (L := L) (p := p + 4 + 8 + 1 + (4 + u) + 2) c2 (by omega) (by rw [show p + 4 + 8 + 1 + (4 + u) + 2 + 1 = p + (20 + u) by omega]; exact hn)
  have k1 : pu_nk B L 1 p = p + 4 + 1 := n0
  have k2 : pu_nk B L 2 p = p + 4 + 3 := by show pu_nx B L (pu_nk B L 1 _) = _; rw [k1]; exact n1
  have k3 : pu_nk B L 3 p = p + 4 + 5 := by show pu_nx B L (pu_nk B L 2 _) = _; rw [k2]; exact n2
  have k4 : pu_nk B L 4 p = p + 4 + 7 := by show pu_nx B L (pu_nk B L 3 _) = _; rw [k3]; exact n3
  have k5 : pu_nk B L 5 p = p + 4 + 8 + 1 := by show pu_nx B L (pu_nk B L 4 _) = _; rw [k4]; exact n4
  have k6 : pu_nk B L 6 p = p + 4 + 8 + 1 + (4 + u) + 1 := by show pu_nx B L (pu_nk B L 5 _) = _; rw [k5]; exact n5
  have k7 : pu_nk B L 7 p = p + 4 + 8 + 1 + (4 + u) + 2 := by show pu_nx B L (pu_nk B L 6 _) = _; rw [k6]; exact n6
  have k8 : pu_nk B L 8 p = p + (20 + u) := by show pu_nx B L (pu_nk B L 7 _) = _; rw [k7, s2]; omega
  have j1 : pu_nk B L 1 (p + 4 + 1) = p + 4 + 3 := n1
  have j2 : pu_nk B L 2 (p + 4 + 1) = p + 4 + 5 := by show pu_nx B L (pu_nk B L 1 _) = _; rw [j1]; exact n2
  have j3 : pu_nk B L 3 (p + 4 + 1) = p + 4 + 7 := by show pu_nx B L (pu_nk B L 2 _) = _; rw [j2]; exact n3
  have w6 : pu_isW B L (p + 4 + 8 + 1) 6 = !r := by rw [i5 6 (by decide)]; cases r <;> decide +kernel
  have w7 : pu_isW B L (p + 4 + 8 + 1) 7 = r := by rw [i5 7 (by decide)]; cases r <;> decide +kernel
  unfold pu_stm
  rw [if_neg (by rw [i0 0 (by decide)]; decide +kernel), if_pos (show pu_isW B L p 1 = true by rw [i0 1 (by decide)]; decide +kernel), k8]
  have e : pu_eB B L w h A p = none := by
    unfold pu_eB pu_eB2
    rw [k5, k6, k7, n0, pu_fs_y h8, dq_rdArea (x0 := D 0) (y0 := D 1) (x1 := D 2) (y1 := D 3) d1 (by rw [j1]; exact d2) (by rw [j2]; exact d3) (by rw [j3]; exact d4) hx hx1 hy hy1, pu_fs_y (by rw [w6, w7]; cases r; exact Or.inl rfl; exact Or.inr rfl), dq_eN d6 ht.1 ht.2]
    exact pu_fs_y s1
  have hq : pu_qB B L A p = pu_aB A (D 0) (D 1) (D 2) (D 3) (if r then Int32.ofNat t else -Int32.ofNat t) := by
    unfold pu_qB pu_tB
    rw [k1, k2, k3, k4, k5, k6, d1.2, d2.2, d3.2, d4.2, d6.2, w6]
    cases r <;> rfl
  rw [e, hq]
end DQL
