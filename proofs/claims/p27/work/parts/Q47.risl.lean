/-! randomIsland whole -/
section DQRH
variable {Y Y0 Y' Y'' Ya Yb : dw_S} {th : Nat} {ι κ : Nat → Nat} {A A' : Nat → Int32} {w h NB nb NC nc n c s bf r q q0 q1 p w0 h0 nb0 nc0 cn0 m cc mk : Nat} {a0 : Nat → Int32} {hist0 : Nat → Nat → Int32} {err0 : Int32} {T T' P : List Nat} {D : Nat → Nat}
/-- an island whose map isn't told yet -/
def dq_H0 (Y : dw_S) (th : Nat) (ι : Nat → Nat) : Prop := dw_is Y th 13 ∧ (dw_i Y th 7 = 0 ∧ dw_i Y th 8 = 0 ∧ dw_i Y th 9 = 0) ∧ (dw_r Y th 4 = some (ι 2) ∧ dw_r Y th 5 = some (ι 3) ∧ dw_r Y th 6 = some (ι 4) ∧ dw_r Y th 12 = some (ι 5)) ∧ (dq_A1 Y (ι 2) 20 8 ∧ ∀ k, k < 8 → dw_i Y (ι 2) k = -1) ∧ dq_A1 Y (ι 3) 26 0 ∧ dq_A1 Y (ι 4) 24 0 ∧ dq_A1 Y (ι 5) 20 9 ∧ ι 5 ≠ ι 2
theorem dq_H0_fr (H : dq_H0 Y th ι) (hr : th ≠ r) (h2 : ι 2 ≠ r) (F : dq_fr (fun k j => k = r ∨ (k = th ∧ j < 2)) (fun k j => k = th ∧ j < 4) Y Y') : dq_H0 Y' th ι := by
  obtain ⟨Is, ⟨i7, i8, i9⟩, ⟨r4, r5, r6, r12⟩, ⟨m5, m6⟩, b, c, n1, n2⟩ := H
  have ei : ∀ j, 2 ≤ j → dw_i Y' th j = dw_i Y th j := fun j hj => F.2.2.2.1 th j Is.1 (fun z => z.elim hr (fun z => by omega))
  have er : ∀ j, 4 ≤ j → dw_r Y' th j = dw_r Y th j := fun j hj => F.2.2.2.2 th j Is.1 (fun z => by omega)
  have x2 : ι 2 ≠ th := dq_is_ne m5.1 Is (by decide)
  exact ⟨dq_is_fr F Is, ⟨(ei 7 (by omega)).trans i7, (ei 8 (by omega)).trans i8, (ei 9 (by omega)).trans i9⟩, ⟨(er 4 (by omega)).trans r4, (er 5 (by omega)).trans r5, (er 6 (by omega)).trans r6, (er 12 (by omega)).trans r12⟩, ⟨dq_A1_fr F m5, fun k hk => (F.2.2.2.1 (ι 2) k m5.1.1 (fun z => z.elim h2 (fun z => x2 z.1))).trans (m6 k hk)⟩, dq_A1_fr F b, dq_A1_fr F c, dq_A1_fr F n1, n2⟩
def dq_HD (Y0 : dw_S) (bf r th w0 h0 nb0 nc0 : Nat) (a0 : Nat → Int32) (cn0 : Nat) (hist0 : Nat → Nat → Int32) (err0 : Int32) (T : List Nat) (ι : Nat → Nat) (Y : dw_S) : Prop := dq_wx bf r Y0 Y ∧ dq_TX bf w0 h0 nb0 nc0 a0 cn0 hist0 err0 T Y ∧ dq_H0 Y th ι ∧ dw_n Y0 ≤ th ∧ ∀ j, 2 ≤ j → j ≤ 5 → dw_n Y0 ≤ ι j
theorem dq_HD_fr (C : dq_RC Y0 bf r n) (H : dq_HD Y0 bf r th w0 h0 nb0 nc0 a0 cn0 hist0 err0 T ι Y) (F : dq_fr (fun k j => k = r ∨ (k = th ∧ j < 2)) (fun k j => k = th ∧ j < 4) Y Y') : dq_HD Y0 bf r th w0 h0 nb0 nc0 a0 cn0 hist0 err0 T ι Y' := by
  obtain ⟨W, X, H, t1, hι⟩ := H
  have hr0 := C.1.1
  have hb0 := C.2.1.1
  have hrb := C.2.2.1
  have h2 := hι 2 (by omega) (by omega)
  exact ⟨dq_wx_fr W F (fun k j hk z => z.elim Or.inr (fun z => by omega)) (fun k j hk z => by omega), dq_TX_fr F (fun j z => z.elim (fun z => hrb z.symm) (fun z => by omega)) X, dq_H0_fr H (by omega) (by omega) F, t1, hι⟩
theorem dq_HD_n (C : dq_RC Y0 bf r n) (H : dq_HD Y0 bf r th w0 h0 nb0 nc0 a0 cn0 hist0 err0 T ι Y) : 442 ≤ dw_n Y ∧ dw_is Y r 15 ∧ bf < dw_n Y := by
  have := dq_wx_n H.1
  have := C.2.1.1
  exact ⟨by have := C.2.2.2.1; omega, dq_is_wx H.1 C.1, by omega⟩
theorem dq_A0_f {j : Nat} : (dq_aT (pu_A0 w h) 4 = 0) ∧ (j ≠ 4 → dq_aT (pu_A0 w h) j = pu_a0 w h j) := by
  refine ⟨?_, fun hj => ?_⟩
  · rw [dq_aT_4]
    unfold pu_A0
    rw [pu_upd_s, if_pos rfl]
  · rw [dq_aT_n hj]
    exact pu_upd_n hj
theorem dq_H0_P (H : dq_H0 Y th ι) (ew : dw_i Y th 0 = Int32.ofNat w) (eh : dw_i Y th 1 = Int32.ofNat h) (e2 : dw_r Y th 2 = some q0) (e3 : dw_r Y th 3 = some q1) (B0 : dq_A1 Y q0 21 (w * h)) (z0 : ∀ c, dw_i Y q0 c = 0) (B1 : dq_A1 Y q1 21 (w * h)) (z1 : ∀ c, dw_i Y q1 c = 0) (h01 : q0 ≠ q1) (hm : w * h ≤ 400) : ∃ κ, dq_P Y th κ (dq_aT (pu_A0 w h)) w h 0 0 0 0 ∧ κ 0 = q0 ∧ κ 1 = q1 ∧ ∀ j, 2 ≤ j → κ j = ι j := by
  have e : ∀ j, 2 ≤ j → (fun j => if j = 0 then q0 else if j = 1 then q1 else ι j) j = ι j := fun j hj => by
    show (if _ then _ else _) = _
    rw [if_neg (by omega), if_neg (by omega)]
  have k0 : (fun j => if j = 0 then q0 else if j = 1 then q1 else ι j) 0 = q0 := rfl
  have k1 : (fun j => if j = 0 then q0 else if j = 1 then q1 else ι j) 1 = q1 := rfl
  refine ⟨fun j => if j = 0 then q0 else if j = 1 then q1 else ι j, ?_, k0, k1, e⟩
  generalize (fun j => if j = 0 then q0 else if j = 1 then q1 else ι j) = κ at e k0 k1
  obtain ⟨Is, ⟨i7, i8, i9⟩, ⟨r4, r5, r6, r12⟩, ⟨m5, m6⟩, b, c, n1, n2⟩ := H
  have k2 := e 2 (by omega)
  have k3 := e 3 (by omega)
  have k4 := e 4 (by omega)
  have k5 := e 5 (by omega)
  have az : ∀ j, 4 < j → (j < 808 ∨ 816 ≤ j) → dq_aT (pu_A0 w h) j = 0 := fun j j1 j2 => by rw [(dq_A0_f (j := j)).2 (by omega)]; exact pu_a0_z (by omega) j2
  refine ⟨Is, ⟨ew, eh, ?_, ?_, ?_, fun z => ?_⟩, ⟨?_, ?_, ?_, ?_, ?_, ?_⟩, ⟨⟨?_, fun c hc => ?_⟩, ⟨?_, fun c hc => ?_⟩, ?_, fun k hk => ?_⟩, ⟨?_, fun k hk => absurd hk (Nat.not_lt_zero _)⟩, ⟨?_, fun q hq => absurd hq (Nat.not_lt_zero _)⟩, ?_, ?_, fun k hk => absurd hk (Nat.not_lt_zero _), fun q hq => absurd hq (Nat.not_lt_zero _), ?_, fun k hk => absurd hk (Nat.not_lt_zero _), fun q hq => absurd hq (Nat.not_lt_zero _)⟩
  · rw [(dq_A0_f (j := 0)).1]; exact i7
  · rw [az 5 (by omega) (by omega)]; exact i8
  · rw [az 6 (by omega) (by omega)]; exact i9
  · rw [az 6 (by omega) (by omega)] at z
    exact absurd z (by decide)
  · rw [k0]; exact e2
  · rw [k1]; exact e3
  · rw [k2]; exact r4
  · rw [k3]; exact r5
  · rw [k4]; exact r6
  · rw [k5]; exact r12
  · rw [k0]; exact B0
  · rw [k0, az _ (by omega) (by omega)]; exact z0 c
  · rw [k1]; exact B1
  · rw [k1, az _ (by omega) (by omega)]; exact z1 c
  · rw [k2]; exact m5
  · rw [k2, (dq_A0_f (j := 808 + k)).2 (by omega), pu_a0_m hk]; exact m6 k hk
  · rw [k3]; exact b
  · rw [k4]; exact c
  · rw [k5]; exact n1
  · rw [k5, k2]; exact n2
  · rw [k0, k1]; exact h01
theorem dq_A0_AW (D : dq_RD w h) : pu_AW (pu_A0 w h) w h := (pu_A0_AW (by have := D.1; omega) (by have := D.2.1; omega) (by have := D.2.2.1; omega) (by have := D.2.2.2; omega)).1
set_option maxHeartbeats 2000000 in
theorem dq_risland {Q : Option Nat × dw_S → Prop} (C : dq_RC Y0 bf r n) (X : dq_TX bf w0 h0 nb0 nc0 a0 cn0 hist0 err0 [] Y0) (hQ : ∀ th w h nb NC A κ Y' buf, dq_RD w h → nb ≤ 2 → NC ≤ 3 → dq_wx bf r Y0 Y' → dq_I Y' th κ A w h nb NC → dq_sm A w h NC → pu_IC (dw_s Y') w h nb NC A (min (cn0 + 1) 8) (pu_push cn0 hist0 a0) 0 buf (-1) → dw_n Y0 ≤ th → dq_fsh (dw_n Y0) κ A nb NC → Q (some th, Y')) : dw_P_L_randomIsland n bf r Y0 Q := by
  have hn := C.2.2.2.2
  have h4 := C.2.2.2.1
  have hr0 := C.1.1
  have hb0 := C.2.1.1
  have t0 : Int32.toNatClampNeg (0 : Int32) = 0 := rfl
  have t1 : Int32.toNatClampNeg (1 : Int32) = 1 := rfl
  have t2 : Int32.toNatClampNeg (2 : Int32) = 2 := rfl
  have t3 : Int32.toNatClampNeg (3 : Int32) = 3 := rfl
  have t4 : Int32.toNatClampNeg (4 : Int32) = 4 := rfl
  have t5 : Int32.toNatClampNeg (5 : Int32) = 5 := rfl
  unfold dw_P_L_randomIsland
  simp only [t0, t1, t2, t3, t4, t5]
  clear t0 t1 t2 t3 t4 t5
  refine fun th hth => dq_lt (dq_init (dq_is_new h4 hth) (fun j => dq_i_nw_s) (fun Y1 ι I1 F1 hι => ?_))
  have hι : ∀ j, j ≤ 5 → th + 1 ≤ ι j := hι
  have hth : dw_n Y0 ≤ th := hth
  have F0 : dq_fr dq_no dq_no Y0 (dw_nw Y0 th 13 0 (fun _ => 0) (fun _ => none)) := dq_fr_nw dq_fr_refl hth
  have H1 : dq_HD Y0 bf r th w0 h0 nb0 nc0 a0 cn0 hist0 err0 [] ι Y1 := by
    obtain ⟨Is, ⟨-, -, f2, f3, f4, -⟩, ⟨-, -, r2, r3, r4, r5⟩, ⟨-, -, m5, m6⟩, ⟨b1, -⟩, ⟨c1, -⟩, n1, n2, -⟩ := I1
    refine ⟨dq_wx_fr (dq_wx_fr dq_wx_refl F0 (fun _ _ _ z => absurd z id) (fun _ _ _ z => z)) F1 (fun k j hk (z : k = th) => by omega) (fun k j hk (z : k = th) => by omega), dq_TX_fr F1 (fun j (z : bf = th) => by omega) (dq_TX_fr F0 (fun _ z => z) X), ⟨Is, ⟨?_, ?_, ?_⟩, ⟨r2, r3, r4, r5⟩, ⟨m5, fun k hk => ?_⟩, b1, c1, n1, n2⟩, hth, fun j _ hj => by have := hι j hj; omega⟩
    · exact f2.trans (pu_a0_z (by omega) (by omega))
    · exact f3.trans (pu_a0_z (by omega) (by omega))
    · exact f4.trans (pu_a0_z (by omega) (by omega))
    · exact (m6 k hk).trans (pu_a0_m hk)
  clear F0 F1 I1
  have thr : th ≠ r := by omega
  refine dq_ck (dq_HD_n C H1).2.1 (dq_below (b := 5) (dq_HD_n C H1).2.1 (by omega) (by omega) (fun v Y2 hv F2 => ?_))
  have H2 := dq_HD_fr C H1 (dq_fr_mono F2 (fun k j _ z => Or.inl z) (fun _ _ _ z => absurd z id))
  clear H1 F2
  dsimp only []
  rw [show (2 : Int32) + Int32.ofNat v = Int32.ofNat (2 + v) from pu_add 2 v]
  obtain ⟨w, hw⟩ : ∃ w, w = 2 + v := ⟨_, rfl⟩
  rw [← hw]
  refine dq_ck H2.2.2.1.1 (dq_lt ?_)
  have F3 : dq_fr (fun k j => k = r ∨ (k = th ∧ j < 2)) (fun k j => k = th ∧ j < 4) Y2 (dw_pi Y2 th 0 (Int32.ofNat w)) := dq_fr_pi dq_fr_refl (fun _ => Or.inr ⟨rfl, by omega⟩)
  have H3 := dq_HD_fr C H2 F3
  have w3 : dw_i (dw_pi Y2 th 0 (Int32.ofNat w)) th 0 = Int32.ofNat w := dq_i_pi_s
  generalize dw_pi Y2 th 0 (Int32.ofNat w) = Y3 at H3 w3 ⊢
  clear H2 F3
  refine dq_ck (dq_HD_n C H3).2.1 (dq_below (b := 4) (dq_HD_n C H3).2.1 (by omega) (by omega) (fun u Y4 hu F4 => ?_))
  have H4 := dq_HD_fr C H3 (dq_fr_mono F4 (fun k j _ z => Or.inl z) (fun _ _ _ z => absurd z id))
  have w4 : dw_i Y4 th 0 = Int32.ofNat w := (F4.2.2.2.1 th 0 H3.2.2.1.1.1 thr).trans w3
  clear H3 F4 w3
  dsimp only []
  rw [show (2 : Int32) + Int32.ofNat u = Int32.ofNat (2 + u) from pu_add 2 u]
  obtain ⟨h, hh⟩ : ∃ h, h = 2 + u := ⟨_, rfl⟩
  rw [← hh]
  refine dq_ck H4.2.2.1.1 (dq_lt ?_)
  have F5 : dq_fr (fun k j => k = r ∨ (k = th ∧ j < 2)) (fun k j => k = th ∧ j < 4) Y4 (dw_pi Y4 th 1 (Int32.ofNat h)) := dq_fr_pi dq_fr_refl (fun _ => Or.inr ⟨rfl, by omega⟩)
  have H5 := dq_HD_fr C H4 F5
  have w5 : dw_i (dw_pi Y4 th 1 (Int32.ofNat h)) th 0 = Int32.ofNat w := (dq_i_pi_j (by decide)).trans w4
  have h5 : dw_i (dw_pi Y4 th 1 (Int32.ofNat h)) th 1 = Int32.ofNat h := dq_i_pi_s
  generalize dw_pi Y4 th 1 (Int32.ofNat h) = Y5 at H5 w5 h5 ⊢
  clear H4 F5 w4
  have hD : dq_RD w h := ⟨by omega, by omega, by omega, by omega⟩
  obtain ⟨hwh, hwh2, hwp, hw0⟩ := dq_RD_b hD
  have hw6 := hD.2.1
  have hh5 := hD.2.2.2
  have hw2 := hD.1
  have hh2 := hD.2.2.1
  clear hw hh hv hu
  refine dq_ck H5.2.2.1.1 (dq_ck H5.2.2.1.1 (dq_lt ?_))
  rw [w5, h5, pu_mul, pu_n (show w * h < 2147483648 by omega)]
  refine dq_ck ⟨⟨pu_nn (by omega), by omega⟩, by omega, by omega⟩ (fun q0 hq0 => dq_lt ?_)
  have F6 : ∀ {a b}, dq_fr a b Y5 (dw_nw Y5 q0 21 (w * h) (fun _ => 0) (fun _ => none)) := dq_fr_nw dq_fr_refl hq0
  have H6 := dq_HD_fr C H5 F6
  have B6 : dq_A1 (dw_nw Y5 q0 21 (w * h) (fun _ => 0) (fun _ => none)) q0 21 (w * h) := dq_A1_new (dq_HD_n C H5).1 hq0
  have z6 : ∀ c, dw_i (dw_nw Y5 q0 21 (w * h) (fun _ => 0) (fun _ => none)) q0 c = 0 := fun c => dq_i_nw_s
  have x0 : th ≠ q0 := by have := H5.2.2.1.1.1; omega
  have w6 : dw_i (dw_nw Y5 q0 21 (w * h) (fun _ => 0) (fun _ => none)) th 0 = Int32.ofNat w := (dq_i_nw_n x0).trans w5
  have h6 : dw_i (dw_nw Y5 q0 21 (w * h) (fun _ => 0) (fun _ => none)) th 1 = Int32.ofNat h := (dq_i_nw_n x0).trans h5
  have hq0n : dw_n Y0 ≤ q0 := Nat.le_trans (dq_wx_n H5.1) hq0
  generalize dw_nw Y5 q0 21 (w * h) (fun _ => 0) (fun _ => none) = Y6 at F6 H6 B6 z6 w6 h6 ⊢
  clear H5 F6 w5 h5
  refine dq_ck H6.2.2.1.1 (dq_lt ?_)
  have F7 : dq_fr (fun k j => k = r ∨ (k = th ∧ j < 2)) (fun k j => k = th ∧ j < 4) Y6 (dw_pr Y6 th 2 (some q0)) := dq_fr_pr dq_fr_refl (fun _ => ⟨rfl, by omega⟩)
  have H7 := dq_HD_fr C H6 F7
  have B7 : dq_A1 (dw_pr Y6 th 2 (some q0)) q0 21 (w * h) := B6
  have z7 : ∀ c, dw_i (dw_pr Y6 th 2 (some q0)) q0 c = 0 := z6
  have w7 : dw_i (dw_pr Y6 th 2 (some q0)) th 0 = Int32.ofNat w := w6
  have h7 : dw_i (dw_pr Y6 th 2 (some q0)) th 1 = Int32.ofNat h := h6
  have r7 : dw_r (dw_pr Y6 th 2 (some q0)) th 2 = some q0 := dq_r_pr_s
  generalize dw_pr Y6 th 2 (some q0) = Y7 at H7 B7 z7 w7 h7 r7 ⊢
  clear H6 F7 B6 z6 w6 h6
  refine dq_ck ⟨⟨pu_nn (by omega), by omega⟩, by omega, by omega⟩ (fun q1 hq1 => dq_lt ?_)
  have F8 : ∀ {a b}, dq_fr a b Y7 (dw_nw Y7 q1 21 (w * h) (fun _ => 0) (fun _ => none)) := dq_fr_nw dq_fr_refl hq1
  have H8 := dq_HD_fr C H7 F8
  have x1 : th ≠ q1 := by have := H7.2.2.1.1.1; omega
  have x01 : q0 ≠ q1 := by have := B7.1.1; omega
  have B8 : dq_A1 (dw_nw Y7 q1 21 (w * h) (fun _ => 0) (fun _ => none)) q0 21 (w * h) := dq_A1_fr (F8 (a := dq_no) (b := dq_no)) B7
  have z8 : ∀ c, dw_i (dw_nw Y7 q1 21 (w * h) (fun _ => 0) (fun _ => none)) q0 c = 0 := fun c => (dq_i_nw_n x01).trans (z7 c)
  have C8 : dq_A1 (dw_nw Y7 q1 21 (w * h) (fun _ => 0) (fun _ => none)) q1 21 (w * h) := dq_A1_new (dq_HD_n C H7).1 hq1
  have y8 : ∀ c, dw_i (dw_nw Y7 q1 21 (w * h) (fun _ => 0) (fun _ => none)) q1 c = 0 := fun c => dq_i_nw_s
  have w8 : dw_i (dw_nw Y7 q1 21 (w * h) (fun _ => 0) (fun _ => none)) th 0 = Int32.ofNat w := (dq_i_nw_n x1).trans w7
  have h8 : dw_i (dw_nw Y7 q1 21 (w * h) (fun _ => 0) (fun _ => none)) th 1 = Int32.ofNat h := (dq_i_nw_n x1).trans h7
  have r8 : dw_r (dw_nw Y7 q1 21 (w * h) (fun _ => 0) (fun _ => none)) th 2 = some q0 := (dq_r_nw_n x1).trans r7
  have hq1n : dw_n Y0 ≤ q1 := Nat.le_trans (dq_wx_n H7.1) hq1
  generalize dw_nw Y7 q1 21 (w * h) (fun _ => 0) (fun _ => none) = Y8 at F8 H8 B8 z8 C8 y8 w8 h8 r8 ⊢
  clear H7 F8 B7 z7 w7 h7 r7
  refine dq_ck H8.2.2.1.1 (dq_lt ?_)
  have F9 : dq_fr (fun k j => k = r ∨ (k = th ∧ j < 2)) (fun k j => k = th ∧ j < 4) Y8 (dw_pr Y8 th 3 (some q1)) := dq_fr_pr dq_fr_refl (fun _ => ⟨rfl, by omega⟩)
  have H9 := dq_HD_fr C H8 F9
  obtain ⟨κ, I9, k0, k1, ko⟩ := dq_H0_P H9.2.2.1 (w := w) (h := h) (q0 := q0) (q1 := q1) w8 h8 ((dq_r_pr_j (by decide)).trans r8) dq_r_pr_s B8 z8 C8 y8 x01 (by omega)
  generalize dw_pr Y8 th 3 (some q1) = Y9 at H9 I9 ⊢
  clear H8 F9 B8 z8 C8 y8 w8 h8 r8
  have f9 : dq_fsh (dw_n Y0) κ (dq_aT (pu_A0 w h)) 0 0 := by
    refine dq_fsh0.mpr ⟨fun j hj => ?_, fun k hk => absurd hk (Nat.not_lt_zero _)⟩
    by_cases e0 : j = 0
    · rw [e0, k0]; exact hq0n
    · by_cases e1 : j = 1
      · rw [e1, k1]; exact hq1n
      · rw [ko j (by omega)]; exact H9.2.2.2.2 j (by omega) hj
  obtain ⟨u1, u2, u3⟩ := dq_HD_n C H9
  obtain ⟨W9, X9, -⟩ := H9
  have I9s := I9.1
  have I9w := I9.2.1.1
  have I9h := I9.2.1.2.1
  obtain ⟨D, D0, D1, -, -⟩ := dq_D4 w h 0 0
  refine dq_ck ⟨⟨by decide, by decide⟩, by omega, by omega⟩ (fun q hq => dq_lt ?_)
  have N0 : dq_NA Y9 (dw_nw Y9 q 20 2 (fun _ => 0) (fun _ => none)) q 2 D 0 := dq_NA_new u1 hq
  generalize dw_nw Y9 q 20 2 (fun _ => 0) (fun _ => none) = Z0 at N0 ⊢
  refine dq_ck (dq_NA_th N0 I9s).1 ?_
  rw [(dq_NA_th N0 I9s).2 0, I9w]
  refine dq_ck (dq_NA_ok N0 (k := 0) rfl (by omega) (by omega)) (dq_lt ?_)
  have N1 := dq_NA_set N0 (k := 0) (v := Int32.ofNat w) rfl (by rw [D0])
  generalize dw_pi Z0 q 0 (Int32.ofNat w) = Z1 at N1 ⊢
  refine dq_ck (dq_NA_th N1 I9s).1 ?_
  rw [(dq_NA_th N1 I9s).2 1, I9h]
  refine dq_ck (dq_NA_ok N1 (k := 1) rfl (by omega) (by omega)) (dq_lt ?_)
  have N2 := dq_NA_set N1 (k := 1) (v := Int32.ofNat h) rfl (by rw [D1])
  generalize dw_pi Z1 q 1 (Int32.ofNat h) = Z2 at N2 ⊢
  clear N0 N1
  have hd10 : ∀ i, i < 2 → D i < 10 := by
    intro i hi
    have hc4 : i = 0 ∨ i = 1 := by omega
    rcases hc4 with e | e <;> subst e <;> omega
  have hq2 := N2.2.2.1
  have l5 : (dq_wd 5).length = 4 := by decide +kernel
  refine dq_ck ⟨by omega, by omega⟩ (dq_writeAll (D := D) (by decide) (by omega) N2.2.1 (fun i hi => ⟨N2.2.2.2 i hi, hd10 i hi⟩) (by omega) (dq_TX_fr N2.1 (fun _ z => z) X9) (by show 0 < 530; omega) (by omega) (fun Y6 F6 X6 => dq_ck ⟨by omega, by omega⟩ (dq_write (by decide) X6 ?_ (by omega) (fun Y7 F7 X7 => ?_))))
  · rw [List.length_append, List.length_append, dq_nums_len, l5]
    show 0 + (4 + 2 * 2) < 560; omega
  have eT : ([] ++ (dq_wd 5 ++ dq_nums D 2)) ++ dq_wd 29 = dq_wd 5 ++ (dq_nums D 2 ++ [59]) := by rw [dq_l29]; simp only [List.append_assoc, List.nil_append]
  rw [eT] at X7
  have PR : dq_PR (dq_wd 5 ++ (dq_nums D 2 ++ [59])) w h (pu_A0 w h) := by
    have := dq_PR_map (D := D) (by omega) (by omega)
    rw [D0, D1] at this
    exact this
  have a0z : ∀ j, 2 ≤ j → j ≠ 4 → (j < 808 ∨ 816 ≤ j) → pu_A0 w h j = 0 := fun j j1 j2 j3 => by
    unfold pu_A0
    rw [pu_upd_n j2]; exact pu_a0_z j1 j3
  have R7 : dq_RI Y0 bf r th w0 h0 nb0 nc0 a0 cn0 hist0 err0 (dq_wd 5 ++ (dq_nums D 2 ++ [59])) (pu_A0 w h) w h 0 0 0 0 κ Y7 := by
    refine dq_RI_wr C W9 (dq_wr_tr (dq_wr_no N2.1) (dq_wr_tr F6 F7)) X7 I9 hth f9 ⟨PR, dq_A0_AW hD, decide_eq_true (a0z 8 (by omega) (by omega) (by omega)), ?_, ?_⟩ hD
    · unfold pu_v
      rw [a0z 2 (by omega) (by omega) (by omega)]; rfl
    · unfold pu_v
      rw [a0z 3 (by omega) (by omega) (by omega)]; rfl
  have l7 : (dq_wd 5 ++ (dq_nums D 2 ++ [59])).length = 9 := dq_nl 5 _ (k := 4) l5 dq_n59
  have m7 : ∀ m, m < 8 → pu_A0 w h (808 + m) = -1 := fun m hm => by
    unfold pu_A0
    rw [pu_upd_n (by omega)]; exact pu_a0_m hm
  have t7 : pu_A0 w h 4 = -1 := pu_upd_s
  generalize dq_wd 5 ++ (dq_nums D 2 ++ [59]) = T1 at R7 l7
  generalize pu_A0 w h = A1 at R7 m7 t7
  clear X7 X6 F6 F7 PR I9 f9 a0z N2 W9 X9 eT
  refine dq_ck ⟨(dq_RI_n C R7).2.1, by omega, by omega⟩ (dq_below (b := 4) (dq_RI_n C R7).2.1 (by omega) (by omega) (fun v Y8 hv F8 => dq_lt ?_))
  have R8 := dq_RI_fr C R7 F8 (fun k j z => Or.inl z)
  clear R7 F8
  dsimp only []
  refine dq_for v (fun i u => u.1 = Int32.ofNat (v - i) ∧ u.2.2.1 = 10 + i ∧ u.2.2.2 = 32 + w * h + w * h + 2 + 4 * i ∧ ∃ T' A', dq_RI Y0 bf r th w0 h0 nb0 nc0 a0 cn0 hist0 err0 T' A' w h 0 0 0 0 κ u.2.1 ∧ (∀ m, m < 8 → A' (808 + m) = -1) ∧ A' 4 = -1 ∧ T'.length = 9 + 14 * i) (fun k i u hi hu hk => ?_) (fun k u hu => ?_) (by omega) ⟨rfl, rfl, rfl, T1, A1, R8, m7, t7, l7⟩
  all_goals
    obtain ⟨x1, Yv, cv, sv⟩ := u
    obtain ⟨ex, e1, e2, T', A', R', M', h4', hl'⟩ := hu
    dsimp only [] at ex e1 e2 R'
    dsimp only []
    subst ex e1 e2
  · refine dq_iff (fun z => by have := (pu_le (b := 0) (by omega) (by omega)).mp z; omega) ?_
    have ed : Int32.ofNat (v - i) + (-1 : Int32) = Int32.ofNat (v - (i + 1)) := by
      have hf : ∀ m : Fin 4, Int32.ofNat (m.val + 1) + (-1 : Int32) = Int32.ofNat m.val := by decide
      rw [show v - i = v - (i + 1) + 1 by omega]
      exact hf ⟨v - (i + 1), by omega⟩
    exact dq_riWb_ok C R' M' h4' (by omega) (by omega) (by omega) (fun T2 A2 Y2 R2 m2 e4 l2 => hk _ ⟨ed, by show 10 + i + 1 = _; omega, by show 32 + w * h + w * h + 2 + 4 * i + 4 = _; omega, T2, A2, R2, m2, e4, by omega⟩)
  · refine dq_ift (by rw [Nat.sub_self]; decide) ?_
    exact dq_riB_ok C R' M' h4' (by omega) (by omega) (by omega) (fun nb T2 A2 Y2 ι2 mk c2 s2 g1 g2 g3 R2 M2 e4 l2 g4 g5 => dq_riT_ok C R2 g2 g3 M2 e4 (by omega) (by omega) (by omega) (fun T3 A3 Y3 c3 s3 R3 M3 l3 g6 g7 => dq_riE_ok C R3 g1 g2 g3 M3 (by omega) (by omega) (by omega) (fun NC A4 κ4 Y4 buf g8 W4 I4 S4 J4 t4 f4 => hQ th w h nb NC _ κ4 Y4 buf hD g1 g8 W4 I4 S4 J4 t4 f4)))
end DQRH
