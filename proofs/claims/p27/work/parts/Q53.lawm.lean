/-! one change: a move; one change whole -/
section DQMM
variable {Y Y' Y'' : dw_S} {fx S0 : Nat → Prop} {w h nb nc m n u i0 th r q38 d c s : Nat} {t t' : Nat → Nat} {K K' : Nat → Nat → Nat} {R R' : Nat → Nat → Int32} {κ : Nat → Nat} {a a' : Nat → Int32} {hist : Nat → Nat → Int32} {buf : Nat → Nat}
theorem dq_rmx (s a b N rs : Nat) (h1 : a + b ≤ N) (h : s + N ≤ rs) : s + a + b ≤ rs := by omega
theorem dq_rmy (s s' a b N rs : Nat) (h1 : s' ≤ s + a) (h2 : a + b ≤ N) (h3 : s + N ≤ rs) : s' + b ≤ rs := by omega
theorem dq_rmz (s s' a b N : Nat) (h1 : s' ≤ s + a) (h2 : a + b ≤ N) : s' + b ≤ s + N := by omega
theorem dq_rm3 (s a b x N : Nat) (h : a + b + x ≤ N) : s + a + b + x ≤ s + N := by omega
theorem dq_rm4 (s s' a b N : Nat) (h1 : s' ≤ s + a + b) (h2 : a + b ≤ N) : s' ≤ s + N := by omega
theorem dq_move_ag {q : Nat} {x : Int} : pu_ag pu_Y a (pu_aMove a q x) := fun j hj => by
  have h4 : j ≠ 4 := fun z => hj (Or.inl (Or.inl (by omega)))
  have h5 : j ≠ 5 := fun z => hj (Or.inl (Or.inl (by omega)))
  unfold pu_aMove
  rw [pu_upd_n h5, pu_upd_n h4]
theorem dq_fvD {c : Nat} (hw : w ≤ 20) (hh : h ≤ 20) (hs : pu_v a 4 < w * h) : dq_fv (pu_land a) w h (pu_v a 4) c ≤ 9999 ∧ (dq_fv (pu_land a) w h (pu_v a 4) c < 9999 ↔ 0 ≤ pu_D a w h c) ∧ (dq_fv (pu_land a) w h (pu_v a 4) c < 9999 → pu_D a w h c = (dq_fv (pu_land a) w h (pu_v a 4) c : Int)) := by
  have hv := dq_fv_lt (g := pu_land a) (c := c) hw hh hs
  have e : dq_fv (pu_land a) w h (pu_v a 4) c = if 0 ≤ pu_D a w h c then (pu_D a w h c).toNat else 9999 := rfl
  have v2 : dq_fv (pu_land a) w h (pu_v a 4) c < 9999 ↔ 0 ≤ pu_D a w h c := hv.2
  refine ⟨hv.1, v2, fun z => ?_⟩
  have h0 := v2.mp z
  rw [e, if_pos h0]
  omega
set_option maxHeartbeats 1000000 in
theorem dq_lwM_ok {Jk : Int32 × Int32 × dw_S × Nat × Nat → Prop} (M : dq_MC fx S0 w h nb nc th r q38 d u t K R hist buf Y) (hn : 700000 < n) (hc : c + 2 ≤ dw_rc) (hs : s + 36 ≤ dw_rs) (hJ : ∀ isCh Y', dq_MD fx S0 w h nb nc th r q38 d u isCh Y' → Jk (1, isCh, Y', c + 1 + 1, s + 30 + 6)) : dq_lwM n r th (Int32.ofNat (w * h)) Y c s Jk := by
  unfold dq_lwM
  revert hc hs
  generalize dw_rc = rc
  generalize dw_rs = rs
  intro hc hs
  have hw2 := M.1.2.2.2.1
  obtain ⟨hwh, hwh2, hwp, hw0⟩ := dq_RD_b hw2
  have hw6 := hw2.2.1
  have hh5 := hw2.2.2.2
  refine dq_ck ⟨M.1.1, by omega, by omega⟩ (dq_below M.1.1 (by omega) (by omega) (fun to Y1 hto F1 => dq_lt ?_))
  have M1 := dq_MC_r M F1
  clear F1 M
  obtain ⟨I1, S, W⟩ := dq_MC_I M1
  obtain ⟨w4, w5⟩ := W.2.2.2.2
  dsimp only []
  refine dq_ck I1.1 (dq_ck ⟨I1.1, by omega, by omega⟩ ?_)
  rw [I1.2.1.2.2.1, w4]
  refine dq_far W hwh I1 w5 (r := none) (g := pu_land (R 0)) (Or.inl ⟨rfl, rfl⟩) hn (fun rr RQ => ?_)
  have M2 := dq_MC_use M1 RQ.1
  obtain ⟨I, -, -⟩ := dq_MC_I M2
  have J2 := M2.2.2.2.2.1
  refine dq_ck (dq_A1_ok RQ.2.1 hto (by omega)) (dq_lt ?_)
  have ev0 : dw_i rr.2 rr.1 to = Int32.ofNat (dq_fv (pu_land (R 0)) w h (pu_v (R 0) 4) to) := RQ.2.2.2 to hto
  rw [pu_n (show to < 2147483648 by omega), ev0]
  clear ev0
  have hv := dq_fvD (c := to) (show w ≤ 20 by omega) (show h ≤ 20 by omega) w5
  have v1 := hv.1
  have v2 := hv.2.1
  have hfv := hv.2.2
  clear hv
  generalize dq_fv (pu_land (R 0)) w h (pu_v (R 0) 4) to = fv at v1 v2 hfv ⊢
  generalize hDD : pu_D (R 0) w h to = D at v2 hfv
  generalize rr.2 = Y3 at M2 I J2 ⊢
  clear RQ
  have hcell := dq_cellOf_c (w := w) (h := h) (by omega) (by omega) hto
  have em : Int32.ofNat to - Int32.ofNat to / Int32.ofNat w * Int32.ofNat w = Int32.ofNat (to % w) := pu_rem (by omega) (by omega)
  have ed : Int32.ofNat to / Int32.ofNat w = Int32.ofNat (to / w) := pu_div (by omega) (by omega)
  have e9 : (9999 : Int32) = Int32.ofNat 9999 := by decide
  have hle : (9999 : Int32) ≤ Int32.ofNat fv ↔ 9999 ≤ fv := by rw [e9]; exact pu_le (by decide) (by omega)
  clear e9
  generalize (9999 : Int32) = N9 at hle ⊢
  by_cases hq2 : 9999 ≤ fv
  · refine dq_jn (fun v => v = 0) (fun v ev => dq_lt ?_) (fun f hf => dq_ift (hle.mpr hq2) (hf _ rfl))
    subst ev
    have hneg : ¬ 0 ≤ D := fun z => by have := v2.mpr z; omega
    refine dq_jn (fun Y' => Y' = Y3) (fun Y' hY => ?_) (fun f hf => dq_ift rfl (hf _ rfl))
    subst hY
    rw [I.2.1.1]
    refine dq_ck I.1 (dq_ck hw0 (dq_ck I.1 (dq_ck hw0 (dq_ck ⟨by omega, by omega⟩ ?_))))
    rw [em, ed]
    refine dq_qmove J2 (by omega) hcell (fun s1 J' => ?_)
    rw [hDD] at J' ⊢
    rw [if_neg hneg, if_neg hneg, if_neg hneg] at J'
    rw [if_neg hneg]
    refine dq_jn (fun v => v = (-1 : Int32)) (fun v hv => ?_) (fun f hf => dq_ift rfl (hf _ rfl))
    subst hv
    refine dq_jn (fun v => v = 1) (fun v hv => ?_) (fun f hf => dq_iff (fun z => z rfl) (hf _ rfl))
    subst hv
    have M4 : dq_MC fx S0 w h nb nc th r q38 d u t K R hist buf (dw_cs Y' s1) := ⟨M2.1, M2.2.1, M2.2.2.1, M2.2.2.2.1, J', M2.2.2.2.2.2⟩
    exact dq_lt (hJ 0 _ (dq_MC_stay M4))
  · refine dq_jn (fun v => v = 1) (fun v ev => dq_lt ?_) (fun f hf => dq_iff (fun z => hq2 (hle.mp z)) (hf _ rfl))
    subst ev
    have hq2 : fv < 9999 := Nat.lt_of_not_le hq2
    have hpos : 0 ≤ D := v2.mp hq2
    have hDf : Int32.ofInt D = Int32.ofNat fv := dq_oI (hfv hq2)
    have e8 : dw_i Y3 th 8 = R 0 5 := I.2.1.2.2.2.1
    refine dq_jn (fun Y' => Y' = dw_pi (dw_pi Y3 th 7 (Int32.ofNat to)) th 8 (dw_i (dw_pi Y3 th 7 (Int32.ofNat to)) th 8 + Int32.ofNat fv)) (fun Y' hY => ?_) (fun f hf => dq_iff (by decide) (dq_ck I.1 (dq_lt (dq_ck I.1 (dq_ck I.1 (dq_lt (hf _ rfl)))))))
    obtain ⟨I3, F3⟩ := dq_moved (c := to) (d := D) (x := dw_i (dw_pi Y3 th 7 (Int32.ofNat to)) th 8 + Int32.ofNat fv) W I (by rw [dq_i_pi_j (by decide), e8, hDf])
    rw [← hY] at I3 F3
    have es : dw_s Y' = dw_s Y3 := F3.1
    rw [I3.2.1.1]
    refine dq_ck I3.1 (dq_ck hw0 (dq_ck I3.1 (dq_ck hw0 (dq_ck ⟨by omega, by omega⟩ ?_))))
    rw [em, ed]
    refine dq_qmove (by rw [es]; exact J2) (by omega) hcell (fun s1 J' => ?_)
    rw [hDD] at J' ⊢
    rw [if_pos hpos, if_pos hpos, if_pos hpos] at J'
    rw [if_pos hpos]
    refine dq_jn (fun v => v = Int32.ofNat fv) (fun v hv => ?_) (fun f hf => dq_iff (by decide) (hf _ rfl))
    subst hv
    refine dq_jn (fun v => v = 1) (fun v hv => ?_) (fun f hf => dq_iff (fun z => z hDf) (hf _ rfl))
    subst hv
    have F4 : dq_stpI th (K 0) nb nc Y3 (dw_cs (dw_cs Y' s1) (dw_s Y3)) := ⟨rfl, F3.2.1, F3.2.2.1, F3.2.2.2.1, F3.2.2.2.2⟩
    exact dq_lt (hJ 1 (dw_cs Y' s1) (dq_MC_chg M2 F4 I3 dq_move_ag J'))
set_option maxHeartbeats 1000000 in
theorem dq_lwI_ok {cnt : Int32} {Kk : Int32 × Int32 × Int32 × dw_S × Nat × Nat → Prop} (M : dq_MI fx S0 w h nb nc th r q38 d Y) (hn : 700000 < n) (hd : d ≤ 14) (hc : c + 1575 ≤ dw_rc) (hs : s + 125700 ≤ dw_rs) (hK : ∀ d' Y' c' s', d' ≤ d + 1 → dq_MI fx S0 w h nb nc th r q38 d' Y' → c' ≤ c + 1575 → s' ≤ s + 125700 → Kk (1, Int32.ofNat d', cnt + (1 : Int32), Y', c', s')) : dq_lwI n r th q38 (Int32.ofNat d) cnt Y c s Kk := by
  obtain ⟨Ms, t, K, R, hist, buf, H, e0, J, hh, B⟩ := M
  obtain ⟨I, S, W, -⟩ := H.2.1 0 (Nat.zero_le _)
  rw [e0] at I
  have hw2 := Ms.2.2.2.1
  obtain ⟨hwh, hwh2, hwp, hw0⟩ := dq_RD_b hw2
  have s1 : s + 86 ≤ dw_rs := Nat.le_trans (Nat.add_le_add_left (by decide) s) hs
  have s2 : s + 86 + 36 ≤ dw_rs := dq_rmx s 86 36 125700 _ (by decide) hs
  have s3 : s + 86 + 8580 ≤ dw_rs := dq_rmx s 86 8580 125700 _ (by decide) hs
  have s4 : s + 86 + 6 ≤ dw_rs := dq_rmx s 86 6 125700 _ (by decide) hs
  have hnb := Ms.2.2.2.2.1
  unfold dq_lwI
  refine dq_ck ⟨I.1, by omega, s1⟩ (dq_copy W S hnb I (by omega) (fun u κ Y1 I' F' hnew hsh => dq_lt ?_))
  have H' := dq_SEP_copy H F' I' hnew hsh
  have B' := dq_BF_fr B F' (fun _ z => z)
  have M1 : dq_MC fx S0 w h nb nc th r q38 d u (dq_ins t u) (dq_ins K κ) (dq_ins R (R 0)) hist buf Y1 := by
    refine ⟨dq_MS_fr Ms F', H', ⟨e0, rfl, rfl⟩, ⟨B'.1, B'.2.1, fun j hj => ?_⟩, ?_, fun j hj => ?_⟩
    · show dw_r Y1 q38 j = some (dq_ins t u (j + 1 + 1))
      rw [dq_insS (by omega)]
      exact B'.2.2 j hj
    · show pu_IC (dw_s Y1) w h nb nc (R 0) _ hist 0 buf (-1)
      rw [F'.1]; exact J
    · show _ = dq_ins R (R 0) (j + 1 + 1)
      rw [dq_insS (by omega)]; exact hh j hj
  clear H' B' I' F' hnew hsh H J hh B I S W Ms
  obtain ⟨I1, -, -⟩ := dq_MC_I M1
  dsimp only []
  refine dq_ck I1.1 (dq_ck I1.1 ?_)
  rw [I1.2.1.1, I1.2.1.2.1, pu_mul]
  refine dq_lt (dq_ck ⟨M1.1.1, by omega, s1⟩ (dq_below (b := 6) M1.1.1 (by omega) (by omega) (fun k Y2 hk F2 => ?_)))
  have M2 := dq_MC_r M1 F2
  clear M1 I1 F2
  dsimp only []
  refine dq_jn (fun a => a.1 = 1 ∧ dq_MD fx S0 w h nb nc th r q38 d u a.2.1 a.2.2.1 ∧ a.2.2.2.1 ≤ c + 117 ∧ a.2.2.2.2 ≤ s + 8666) (fun a ha => ?_) (fun f hf => ?_)
  · obtain ⟨a1, a2, Ya, ca, sa⟩ := a
    obtain ⟨g1, ⟨Mx, t2, K2, R2, H2, z0, z1, B2, J2⟩, g3, g4⟩ := ha
    dsimp only [] at g1 Mx H2 B2 J2 g3 g4
    dsimp only []
    exact dq_lwX_ok H2 z0 z1 Mx B2 hn hd g1 J2 (by omega) (dq_rmy s sa 8666 117018 125700 _ g4 (by decide) hs) (fun d' Y' g5 g6 => hK d' Y' _ _ g5 g6 (by omega) (dq_rmz s sa 8666 117018 125700 g4 (by decide)))
  · refine dq_jn (fun _ : Unit => True) (fun _ _ => ?_) (fun g hg => ?_)
    · exact dq_lwM_ok M2 hn (by omega) s2 (fun isCh Y' g1 => hf _ ⟨rfl, g1, by show c + 21 + 1 + 1 ≤ _; omega, dq_rm3 s 86 30 6 8666 (by decide)⟩)
    · refine dq_if (fun _ => hg () trivial) (fun _ => dq_if (fun _ => hg () trivial) (fun _ => dq_if (fun _ => ?_) (fun _ => dq_if (fun _ => ?_) (fun _ => dq_if (fun _ => ?_) (fun _ => ?_)))))
      · exact dq_lwD_ok M2 (by omega) s1 (fun Y' g1 => hf _ ⟨rfl, g1, by show c + 21 ≤ _; omega, Nat.add_le_add_left (by decide) s⟩)
      · exact dq_lwS_ok M2 hn (by omega) s3 (fun isCh Y' c' s' g1 g2 g3 => hf _ ⟨rfl, g1, by show c' ≤ _; omega, dq_rm4 s s' 86 8580 8666 g3 (by decide)⟩)
      · exact dq_lwH_ok M2 hn (by omega) s3 (fun Y' g1 => hf _ ⟨rfl, g1, by show c + 21 + 1 + 95 ≤ _; omega, dq_rm3 s 86 6 8574 8666 (by decide)⟩)
      · exact dq_lwR_ok M2 hn (by omega) s4 (fun isCh Y' g1 => hf _ ⟨rfl, g1, by show c + 21 + 1 ≤ _; omega, dq_rm4 s _ 86 6 8666 (Nat.le_refl _) (by decide)⟩)
end DQMM
