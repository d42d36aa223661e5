/-! randomIsland: a bend statement, its first half; all bends -/
section DQRF
variable {Y Y0 Y' Y'' Ya Yb : dw_S} {th : Nat} {ι : Nat → Nat} {A A' : Nat → Int32} {w h NB nb NC nc n c s bf r q p w0 h0 nb0 nc0 cn0 m cc mk x y x2 y2 t : Nat} {a0 : Nat → Int32} {hist0 : Nat → Nat → Int32} {err0 : Int32} {T T' P : List Nat} {D : Nat → Nat}
/-- a row of numbers, being filled while random numbers are drawn -/
def dq_NR (r : Nat) (Y Y' : dw_S) (q m : Nat) (D : Nat → Nat) (i : Nat) : Prop := dq_fr (fun k _ => k = r) dq_no Y Y' ∧ dq_A1 Y' q 20 m ∧ dw_n Y ≤ q ∧ ∀ j, j < i → dw_i Y' q j = Int32.ofNat (D j)
theorem dq_NR_new (h4 : 442 ≤ dw_n Y) (hq : dw_n Y ≤ q) : dq_NR r Y (dw_nw Y q 20 m (fun _ => 0) (fun _ => none)) q m D 0 := ⟨dq_fr_nw dq_fr_refl hq, dq_A1_new h4 hq, hq, fun j hj => absurd hj (Nat.not_lt_zero _)⟩
theorem dq_NR_ok {i : Nat} (H : dq_NR r Y Y' q m D i) {x : Int32} {k : Nat} (e : x = Int32.ofNat k) (hk : k < m) (hm : m < 100000) : dw_is Y' q 20 ∧ tw_ok x (dw_l Y' q) = true := by rw [e]; exact dq_A1_ok H.2.1 hk hm
theorem dq_NR_set {i : Nat} (H : dq_NR r Y Y' q m D i) {k : Nat} {v : Int32} (ek : k = i) (ev : v = Int32.ofNat (D i)) : dq_NR r Y (dw_pi Y' q k v) q m D (i + 1) := by
  subst ek ev
  obtain ⟨F, A1, hq, hv⟩ := H
  refine ⟨dq_fr_pi F (fun z => by omega), dq_A1_fr (Si := fun _ _ => True) (Sr := fun _ _ => True) (dq_fr_pi dq_fr_refl (fun _ => trivial)) A1, hq, fun j hj => ?_⟩
  by_cases e : j = k
  · rw [e]; exact dq_i_pi_s
  · rw [dq_i_pi_j e]; exact hv j (by omega)
theorem dq_NR_th {i : Nat} (H : dq_NR r Y Y' q m D i) (I : dw_is Y th 13) (hr : th ≠ r) : dw_is Y' th 13 ∧ ∀ j, dw_i Y' th j = dw_i Y th j := ⟨dq_is_fr H.1 I, fun j => H.1.2.2.2.1 th j I.1 hr⟩
theorem dq_NR_below {i : Nat} (H : dq_NR r Y Y' q m D i) (hr : r < dw_n Y) (F : dq_fr (fun k _ => k = r) dq_no Y' Y'') : dq_NR r Y Y'' q m D i := by
  obtain ⟨F0, A1, hq, hv⟩ := H
  exact ⟨dq_fr_tr F0 F, dq_A1_fr F A1, hq, fun j hj => (F.2.2.2.1 q j A1.1.1 (fun (z : q = r) => by omega)).trans (hv j hj)⟩
set_option maxHeartbeats 2000000 in
theorem dq_riBb_ok {K : Int32 × dw_S × Nat × Nat → Prop} (C : dq_RC Y0 bf r n) (R : dq_RI Y0 bf r th w0 h0 nb0 nc0 a0 cn0 hist0 err0 T A w h NB nb 0 0 ι Y) (hnb : nb < NB) (hNB : NB ≤ 2) (hL : T.length < 400) (hc : c + 3 ≤ 300) (hs : s + 10 ≤ 2600) (hK : ∀ T' A' Y' ι', dq_RI Y0 bf r th w0 h0 nb0 nc0 a0 cn0 hist0 err0 T' A' w h NB (nb + 1) 0 0 ι' Y' → (∀ m, m < 8 → A' (808 + m) = A (808 + m)) → A' 4 = A 4 → T'.length ≤ T.length + 21 → K (Int32.ofNat nb + (1 : Int32), Y', c + 1 + 1 + 1, s + 5 + 4 + 1)) : dq_riBb n bf r th (Int32.ofNat nb) Y c s K := by
  have hD := R.2.2.2.2.2.2
  obtain ⟨hwh, hwh2, hwp, hw0⟩ := dq_RD_b hD
  have hd1 := hD.2.1
  have hd2 := hD.2.2.2
  have hd3 := hD.2.2.1
  have hn := C.2.2.2.2
  have hr0 := C.1.1
  have th0 := R.2.2.2.2.1
  have thr : th ≠ r := by omega
  unfold dq_riBb
  refine dq_ck R.2.2.2.1.1 (dq_ck ⟨(dq_RI_n C R).2.1, by omega, by omega⟩ ?_)
  rw [R.2.2.2.1.2.1.1]
  refine dq_below (dq_RI_n C R).2.1 hwp (by omega) (fun x Y1 hx F1 => dq_lt ?_)
  have R1 := dq_RI_fr C R F1 (fun k j z => Or.inl z)
  clear F1 R
  dsimp only []
  refine dq_ck R1.2.2.2.1.1 (dq_ck ⟨(dq_RI_n C R1).2.1, by omega, by omega⟩ ?_)
  rw [R1.2.2.2.1.2.1.2.1]
  refine dq_below (dq_RI_n C R1).2.1 (by omega) (by omega) (fun y Y2 hy F2 => dq_lt ?_)
  have R2 := dq_RI_fr C R1 F2 (fun k j z => Or.inl z)
  clear F2 R1
  obtain ⟨u1, u2, u3⟩ := dq_RI_n C R2
  dsimp only []
  refine dq_ck ⟨⟨by decide, by decide⟩, by omega, by omega⟩ (fun p hp => dq_lt ?_)
  have hr2 : r < dw_n Y2 := u2.1
  -- the numbers are drawn one by one: what the third and the fourth are is known later
  have N0 : ∀ D, dq_NR r Y2 (dw_nw Y2 p 20 5 (fun _ => 0) (fun _ => none)) p 5 D 0 := fun D => dq_NR_new u1 hp
  generalize dw_nw Y2 p 20 5 (fun _ => 0) (fun _ => none) = Z0 at N0 ⊢
  refine dq_ck (dq_NR_ok (N0 (fun _ => 0)) (k := 0) rfl (by omega) (by omega)) (dq_lt ?_)
  have N1 : ∀ D : Nat → Nat, D 0 = x → dq_NR r Y2 (dw_pi Z0 p 0 (Int32.ofNat x)) p 5 D 1 := fun D e => dq_NR_set (N0 D) rfl (by rw [e])
  generalize dw_pi Z0 p 0 (Int32.ofNat x) = Z1 at N1 ⊢
  refine dq_ck (dq_NR_ok (N1 (fun _ => x) rfl) (k := 1) rfl (by omega) (by omega)) (dq_lt ?_)
  have N2 : ∀ D : Nat → Nat, D 0 = x → D 1 = y → dq_NR r Y2 (dw_pi Z1 p 1 (Int32.ofNat y)) p 5 D 2 := fun D e e' => dq_NR_set (N1 D e) rfl (by rw [e'])
  generalize dw_pi Z1 p 1 (Int32.ofNat y) = Z2 at N2 ⊢
  obtain ⟨D2, a0', a1', -, -⟩ := dq_D4 x y 0 0
  have M2 := N2 D2 a0' a1'
  have I2s := R2.2.2.2.1.1
  have iw := R2.2.2.2.1.2.1.1
  have ih := R2.2.2.2.1.2.1.2.1
  have ir : dw_is Z2 r 15 := dq_is_fr M2.1 u2
  refine dq_ck (dq_NR_th M2 I2s thr).1 (dq_ck ⟨ir, by omega, by omega⟩ ?_)
  rw [(dq_NR_th M2 I2s thr).2, iw, pu_sub (by omega)]
  refine dq_below ir (by omega) (by omega) (fun dx Z3 hdx F3 => ?_)
  have N3 : ∀ D : Nat → Nat, D 0 = x → D 1 = y → dq_NR r Y2 Z3 p 5 D 2 := fun D e e' => dq_NR_below (N2 D e e') hr2 F3
  clear N0 N1 N2 M2 F3 ir
  dsimp only []
  rw [pu_add]
  refine dq_ck (dq_NR_ok (N3 D2 a0' a1') (k := 2) rfl (by omega) (by omega)) (dq_lt ?_)
  have N4 : ∀ D : Nat → Nat, D 0 = x → D 1 = y → D 2 = x + dx → dq_NR r Y2 (dw_pi Z3 p 2 (Int32.ofNat (x + dx))) p 5 D 3 := fun D e e' e2 => dq_NR_set (N3 D e e') rfl (by rw [e2])
  generalize dw_pi Z3 p 2 (Int32.ofNat (x + dx)) = Z4 at N4 ⊢
  clear a0' a1' D2
  obtain ⟨D2, a0', a1', a2', -⟩ := dq_D4 x y (x + dx) 0
  have M4 := N4 D2 a0' a1' a2'
  have ir : dw_is Z4 r 15 := dq_is_fr M4.1 u2
  refine dq_ck (dq_NR_th M4 I2s thr).1 (dq_ck ⟨ir, by omega, by omega⟩ ?_)
  rw [(dq_NR_th M4 I2s thr).2, ih, pu_sub (by omega)]
  refine dq_below ir (by omega) (by omega) (fun dy Z5 hdy F5 => ?_)
  have N5 : ∀ D : Nat → Nat, D 0 = x → D 1 = y → D 2 = x + dx → dq_NR r Y2 Z5 p 5 D 3 := fun D e e' e2 => dq_NR_below (N4 D e e' e2) hr2 F5
  clear N3 N4 M4 F5 ir
  dsimp only []
  rw [pu_add]
  refine dq_ck (dq_NR_ok (N5 D2 a0' a1' a2') (k := 3) rfl (by omega) (by omega)) (dq_lt ?_)
  clear a0' a1' a2' D2
  obtain ⟨D, a0', a1', a2', a3'⟩ := dq_D4 x y (x + dx) (y + dy)
  have N6 : dq_NR r Y2 (dw_pi Z5 p 3 (Int32.ofNat (y + dy))) p 5 D 4 := dq_NR_set (N5 D a0' a1' a2') rfl (by rw [a3'])
  generalize dw_pi Z5 p 3 (Int32.ofNat (y + dy)) = Z6 at N6 ⊢
  clear N5
  have ir : dw_is Z6 r 15 := dq_is_fr N6.1 u2
  refine dq_ck ⟨ir, by omega, by omega⟩ (dq_below (b := 2) ir (by omega) (by omega) (fun f Z7 hf F7 => ?_))
  have N7 := dq_NR_below N6 hr2 F7
  clear N6 F7 ir
  dsimp only []
  have ir : dw_is Z7 r 15 := dq_is_fr N7.1 u2
  have f1' := dq_fsh0.mp R2.2.2.2.2.2.1
  have key : ∀ Z8 (rt : Bool) t, 1 ≤ t → t ≤ 3 → dq_NR r Y2 Z8 p 5 D 4 → dq_riBc n bf th p (Int32.ofNat nb) (dq_tn rt t) Z8 (c + 1) (s + 5) K := fun Z8 rt t g1 g2 N8 => by
    obtain ⟨⟨m1, -⟩, ⟨m3, -⟩, m5, -⟩ := R2.2.2.2.1.2.2.2.1
    have b1 := R2.2.2.2.1.2.2.2.2.1
    have n5 := R2.2.2.2.1.2.2.2.2.2.2.1
    have k2 := m5.1.1
    have k5 := n5.1.1
    have hp0 : dw_n Y0 ≤ p := Nat.le_trans (dq_wx_n R2.1) hp
    exact dq_riBc_ok (D := D) C (dq_RI_fr C R2 N8.1 (fun k j z => Or.inl z)) hnb hNB N8.2.1 (by omega) (by omega) (fun k hk => by have := (b1.2 k hk).2.1.1.1; omega) hp0 N8.2.2.2 (by rw [a0', a2']; omega) (by rw [a2']; omega) (by rw [a1', a3']; omega) (by rw [a3']; omega) ⟨g1, g2⟩ hL (by omega) (by omega) (fun T' A' Y' ι' g3 g4 g5 g6 => hK T' A' Y' ι' g3 g4 g5 g6)
  refine dq_jn (fun a => ∃ (rt : Bool) (t : Nat), a.1 = dq_tn rt t ∧ 1 ≤ t ∧ t ≤ 3 ∧ dq_NR r Y2 a.2 p 5 D 4) (fun a ha => ?_) (fun g hg => ?_)
  · obtain ⟨a1, Za⟩ := a
    obtain ⟨rt, t, e, g1, g2, N8⟩ := ha
    dsimp only [] at e N8
    dsimp only []
    subst e
    exact key Za rt t g1 g2 N8
  · refine dq_if (fun _ => dq_ck ⟨ir, by omega, by omega⟩ (dq_below (b := 3) ir (by omega) (by omega) (fun t Z8 ht F8 => hg _ ⟨false, 1 + t, ?_, by omega, by omega, dq_NR_below N7 hr2 F8⟩))) (fun _ => dq_ck ⟨ir, by omega, by omega⟩ (dq_below (b := 3) ir (by omega) (by omega) (fun t Z8 ht F8 => hg _ ⟨true, 1 + t, ?_, by omega, by omega, dq_NR_below N7 hr2 F8⟩)))
    · have : ∀ t : Fin 3, (-1 : Int32) - Int32.ofNat t.val = dq_tn false (1 + t.val) := by decide
      exact this ⟨t, ht⟩
    · exact pu_add 1 t
theorem dq_riB_ok {Q : Option Nat × dw_S → Prop} (C : dq_RC Y0 bf r n) (R : dq_RI Y0 bf r th w0 h0 nb0 nc0 a0 cn0 hist0 err0 T A w h 0 0 0 0 ι Y) (hm : ∀ m, m < 8 → A (808 + m) = -1) (h4 : A 4 = -1) (hL : T.length < 300) (hc : c + 22 ≤ 300) (hs : s + 196 ≤ 2600) (hE : ∀ nb T' A' Y' ι' mk c' s', nb ≤ 2 → 1 ≤ mk → mk ≤ 3 → dq_RI Y0 bf r th w0 h0 nb0 nc0 a0 cn0 hist0 err0 T' A' w h nb nb 0 0 ι' Y' → dq_MK A' w h mk → A' 4 = -1 → T'.length ≤ T.length + 75 → c' ≤ c + 22 → s' ≤ s + 196 → dq_riT n bf r th (Int32.ofNat mk) Y' c' s' Q) : dq_riB n bf r th (Int32.ofNat (w * h)) Y c s Q := by
  have hn := C.2.2.2.2
  unfold dq_riB
  refine dq_ck ⟨(dq_RI_n C R).2.1, by omega, by omega⟩ (dq_below (b := 3) (dq_RI_n C R).2.1 (by omega) (by omega) (fun NB Y1 hv F1 => dq_lt ?_))
  have R1 := dq_RI_fr C R F1 (fun k j z => Or.inl z)
  clear F1 R
  obtain ⟨u1, u2, u3⟩ := dq_RI_n C R1
  dsimp only []
  rw [pu_n (show NB < 2147483648 by omega)]
  refine dq_ck ⟨⟨pu_nn (by omega), by omega⟩, by omega, by omega⟩ (fun q hq => dq_lt ?_)
  have F2 : dq_fr dq_no dq_no Y1 (dw_nw Y1 q 26 NB (fun _ => 0) (fun _ => none)) := dq_fr_nw dq_fr_refl hq
  have A2 : dq_A1 (dw_nw Y1 q 26 NB (fun _ => 0) (fun _ => none)) q 26 NB := dq_A1_new u1 hq
  have hq0 : dw_n Y0 ≤ q := Nat.le_trans (dq_wx_n R1.1) hq
  have R2 := dq_RI_fr C R1 F2 (fun k j z => absurd z id)
  generalize dw_nw Y1 q 26 NB (fun _ => 0) (fun _ => none) = Y2 at F2 A2 R2 ⊢
  clear R1 F2
  refine dq_ck R2.2.2.2.1.1 (dq_lt (dq_lt ?_))
  have F3 : dq_fr dq_no (fun k _ => k = th) Y2 (dw_pr Y2 th 5 (some q)) := dq_fr_pr dq_fr_refl (fun _ => rfl)
  obtain ⟨W2, X2, PR, I2, th1, f1, hD⟩ := id R2
  obtain ⟨κ, I3, k3, ko⟩ := dq_P_row5 I2 A2
  have f1' := dq_fsh0.mp f1
  have R3 : dq_RI Y0 bf r th w0 h0 nb0 nc0 a0 cn0 hist0 err0 T A w h NB 0 0 0 κ (dw_pr Y2 th 5 (some q)) := by
    refine ⟨dq_wx_fr W2 F3 (fun _ _ _ z => absurd z id) (fun k j hk (z : k = th) => by omega), dq_TX_fr F3 (fun _ z => z) X2, PR, I3, th1, dq_fsh0.mpr ⟨fun j hj => ?_, fun k hk => absurd hk (Nat.not_lt_zero _)⟩, hD⟩
    by_cases e : j = 3
    · rw [e, k3]; exact hq0
    · rw [ko j e]; exact f1'.1 j hj
  generalize dw_pr Y2 th 5 (some q) = Y3 at R3 ⊢
  clear R2 F3 W2 X2 PR I2 f1 f1' I3
  refine dq_for NB (fun i u => u.1 = Int32.ofNat i ∧ u.2.2.1 = c + 1 + 3 * i ∧ u.2.2.2 = s + NB + 10 * i ∧ ∃ T' A' ι', dq_RI Y0 bf r th w0 h0 nb0 nc0 a0 cn0 hist0 err0 T' A' w h NB i 0 0 ι' u.2.1 ∧ (∀ m, m < 8 → A' (808 + m) = -1) ∧ A' 4 = -1 ∧ T'.length ≤ T.length + 21 * i) (fun k i u hi hu hk => ?_) (fun k u hu => ?_) (by omega) ⟨rfl, rfl, rfl, T, A, κ, R3, hm, h4, Nat.le_refl _⟩
  all_goals
    obtain ⟨x1, Yv, cv, sv⟩ := u
    obtain ⟨ex, e1, e2, T', A', ι', R', M', h4', hl'⟩ := hu
    dsimp only [] at ex e1 e2 R'
    dsimp only []
    subst ex e1 e2
  · refine dq_iff (by rw [pu_le (by omega) (by omega)]; omega) ?_
    exact dq_riBb_ok C R' hi (by omega) (by omega) (by omega) (by omega) (fun T2 A2 Y2 ι2 R2 m2 e4 l2 => hk _ ⟨pu_add i 1, by show c + 1 + 3 * i + 1 + 1 + 1 = _; omega, by show s + NB + 10 * i + 5 + 4 + 1 = _; omega, T2, A2, ι2, R2, fun m hm8 => (m2 m hm8).trans (M' m hm8), e4.trans h4', by omega⟩)
  · refine dq_ift ((pu_le (by omega) (by omega)).mpr (Nat.le_refl _)) ?_
    exact dq_riM_ok C R' M' h4' (by omega) (by omega) (by omega) (fun mk T2 A2 Y2 g1 g2 R2 M2 e4 l2 => hE NB T2 A2 Y2 ι' mk _ _ (by omega) g1 g2 R2 M2 e4 (by omega) (by omega) (by omega))
end DQRF
