/-! the law's clue: a leg's text -/
section DQV
variable {Y Y0 Y' Y'' : dw_S} {r n bf mk w h nb nc cn q q42 j m A c s : Nat} {a : Nat → Int32} {hist : Nat → Nat → Int32} {err : Int32} {T : List Nat} {l : dq_Lg}
/-- a leg's text is written, the leg is stored -/
def dq_lgB (n r1 q21 q42 : Nat) (lI : Int32) (Y : dw_S) (c s : Nat) (K : Int32 × dw_S × Nat × Nat → Prop) : Prop :=
pw_ck (dw_is Y q42 14) (
tw_jn (fun (a57 : dw_S × Nat × Nat) =>
pw_ck (dw_is a57.1 q42 14) (
tw_jn (fun (a59 : dw_S × Nat × Nat) =>
pw_ck (dw_is a59.1 q42 14) (
tw_jn (fun (a61 : dw_S) =>
pw_ck ((a59.2.1 + 1) ≤ 60 ∧ (a59.2.2 + 4) ≤ 500) (
pw_al (dw_n a61) (fun (q63 : Nat) => pw_lt (dw_nw a61 q63 17 0 (fun _ => 0) (fun _ => none)) (fun (Y64 : dw_S) =>
pw_ck (((a59.2.1 + 1) + 1) ≤ 60 ∧ ((a59.2.2 + 4) + 16) ≤ 500) (
dw_P_J4_init_da8c8 q63 Y64 (fun (r65 : dw_S) =>
pw_ck (dw_is r65 q63 17 ∧ ((a59.2.1 + 1) + 1) ≤ 60 ∧ ((a59.2.2 + 4) + 16) ≤ 500) (
dw_P_J4_append_15ec4 q63 21 r65 (fun (r66 : Nat × dw_S) =>
pw_ck (dw_is r66.2 q42 14) (
pw_ck (tw_ok (dw_i r66.2 q42 3) 8 = true) (
pw_ck ((13 + Int32.toNatClampNeg (dw_i r66.2 q42 3)) < 33) (
pw_ck (dw_is r66.2 r66.1 17 ∧ ((a59.2.1 + 1) + 1) ≤ 60 ∧ ((a59.2.2 + 4) + 16) ≤ 500) (
dw_P_J4_append_15ec4 r66.1 (13 + Int32.toNatClampNeg (dw_i r66.2 q42 3)) r66.2 (fun (r68 : Nat × dw_S) =>
pw_ck (dw_is r68.2 r68.1 17 ∧ (((a59.2.1 + 1) + 1) + 2) ≤ 60 ∧ (((a59.2.2 + 4) + 16) + 36) ≤ 500) (
dw_P_J4_toString_0e30d r68.1 r68.2 (fun (r69 : Nat × dw_S) =>
pw_ck ((((a59.2.1 + 1) + 1) + 2) ≤ 60 ∧ (((a59.2.2 + 4) + 16) + 36) ≤ 500) (
dw_P_L_writed n r1 r69.1 r69.2 (fun (r70 : dw_S) =>
pw_ck (dw_is r70 q42 14) (
tw_jn (fun (a71 : dw_S × Nat × Nat) =>
pw_ck (dw_is a71.1 q21 12) (
pw_nn (dw_r a71.1 q21 1) (fun (r73 : Nat) =>
pw_ck (dw_is a71.1 r73 23 ∧ tw_ok lI (dw_l a71.1 r73) = true ∧ ∀ v, (some q42) = some v → dw_is a71.1 v 14) (pw_lt (dw_pr a71.1 r73 (Int32.toNatClampNeg lI) (some q42)) (fun (Y74 : dw_S) =>
pw_lt (lI + (1 : Int32)) (fun (v75 : Int32) =>
K (v75, Y74, a71.2.1, a71.2.2))))))) (fun (j72 : (dw_S × Nat × Nat) → Prop) =>
if (dw_i r70 q42 2) ≤ 0 then (j72 (r70, (((a59.2.1 + 1) + 1) + 2), (((a59.2.2 + 4) + 16) + 36)))
else (pw_ck ((¬ (1 : Int32) < 0 ∧ (Int32.toNatClampNeg (1 : Int32)) ≤ 10000) ∧ ((((a59.2.1 + 1) + 1) + 2) + 1) ≤ 60 ∧ ((((a59.2.2 + 4) + 16) + 36) + (Int32.toNatClampNeg (1 : Int32))) ≤ 500) (
pw_al (dw_n r70) (fun (q76 : Nat) => pw_lt (dw_nw r70 q76 20 (Int32.toNatClampNeg (1 : Int32)) (fun _ => 0) (fun _ => none)) (fun (Y77 : dw_S) =>
pw_ck (dw_is Y77 q42 14) (
pw_ck (dw_is Y77 q76 20 ∧ tw_ok (0 : Int32) (dw_l Y77 q76) = true) (pw_lt (dw_pi Y77 q76 (Int32.toNatClampNeg (0 : Int32)) (dw_i Y77 q42 2)) (fun (Y78 : dw_S) =>
pw_ck (((((a59.2.1 + 1) + 1) + 2) + 1) ≤ 60 ∧ ((((a59.2.2 + 4) + 16) + 36) + (Int32.toNatClampNeg (1 : Int32))) ≤ 500) (
dw_P_L_writeAll n r1 28 q76 Y78 (fun (r79 : dw_S) =>
j72 (r79, ((((a59.2.1 + 1) + 1) + 2) + 1), ((((a59.2.2 + 4) + 16) + 36) + (Int32.toNatClampNeg (1 : Int32)))))))))))))))))))))))))))))))) (fun (j62 : (dw_S) → Prop) =>
if ¬ (dw_i a59.1 q42 0) = (2 : Int32) then (j62 a59.1)
else (pw_ck (a59.2.1 ≤ 60 ∧ a59.2.2 ≤ 500) (
dw_P_L_write n r1 27 a59.1 (fun (r80 : dw_S) =>
j62 r80)))))) (fun (j60 : (dw_S × Nat × Nat) → Prop) =>
if ¬ (dw_i a57.1 q42 0) = (1 : Int32) then (j60 (a57.1, a57.2.1, a57.2.2))
else (pw_ck ((a57.2.1 + 1) ≤ 60 ∧ (a57.2.2 + 4) ≤ 500) (
pw_al (dw_n a57.1) (fun (q81 : Nat) => pw_lt (dw_nw a57.1 q81 17 0 (fun _ => 0) (fun _ => none)) (fun (Y82 : dw_S) =>
pw_ck (((a57.2.1 + 1) + 1) ≤ 60 ∧ ((a57.2.2 + 4) + 16) ≤ 500) (
dw_P_J4_init_da8c8 q81 Y82 (fun (r83 : dw_S) =>
pw_ck (dw_is r83 q81 17 ∧ ((a57.2.1 + 1) + 1) ≤ 60 ∧ ((a57.2.2 + 4) + 16) ≤ 500) (
dw_P_J4_append_15ec4 q81 26 r83 (fun (r84 : Nat × dw_S) =>
pw_ck (dw_is r84.2 q42 14) (
pw_ck (dw_is r84.2 r84.1 17 ∧ ((a57.2.1 + 1) + 1) ≤ 60 ∧ ((a57.2.2 + 4) + 16) ≤ 500) (
dw_P_J4_append_cf468 r84.1 ((Int32.toUInt32 ((97 : Int32) + (dw_i r84.2 q42 1)) % 65536).toInt32) r84.2 (fun (r85 : Nat × dw_S) =>
pw_ck (dw_is r85.2 r85.1 17 ∧ (((a57.2.1 + 1) + 1) + 2) ≤ 60 ∧ (((a57.2.2 + 4) + 16) + 36) ≤ 500) (
dw_P_J4_toString_0e30d r85.1 r85.2 (fun (r86 : Nat × dw_S) =>
pw_ck ((((a57.2.1 + 1) + 1) + 2) ≤ 60 ∧ (((a57.2.2 + 4) + 16) + 36) ≤ 500) (
dw_P_L_writed n r1 r86.1 r86.2 (fun (r87 : dw_S) =>
j60 (r87, (((a57.2.1 + 1) + 1) + 2), (((a57.2.2 + 4) + 16) + 36)))))))))))))))))))) (fun (j58 : (dw_S × Nat × Nat) → Prop) =>
if ¬ (dw_i Y q42 0) = 0 then (j58 (Y, c, s))
else (pw_ck ((¬ (1 : Int32) < 0 ∧ (Int32.toNatClampNeg (1 : Int32)) ≤ 10000) ∧ (c + 1) ≤ 60 ∧ (s + (Int32.toNatClampNeg (1 : Int32))) ≤ 500) (
pw_al (dw_n Y) (fun (q88 : Nat) => pw_lt (dw_nw Y q88 20 (Int32.toNatClampNeg (1 : Int32)) (fun _ => 0) (fun _ => none)) (fun (Y89 : dw_S) =>
pw_ck (dw_is Y89 q42 14) (
pw_ck (dw_is Y89 q88 20 ∧ tw_ok (0 : Int32) (dw_l Y89 q88) = true) (pw_lt (dw_pi Y89 q88 (Int32.toNatClampNeg (0 : Int32)) (dw_i Y89 q42 1)) (fun (Y90 : dw_S) =>
pw_ck ((c + 1) ≤ 60 ∧ (s + (Int32.toNatClampNeg (1 : Int32))) ≤ 500) (
dw_P_L_writeAll n r1 25 q88 Y90 (fun (r91 : dw_S) =>
j58 (r91, (c + 1), (s + (Int32.toNatClampNeg (1 : Int32)))))))))))))))
def dq_hXT (κ m : Nat) : List Nat := if κ = 0 then dq_wd 25 ++ [32, 48 + m] else if κ = 1 then dq_wd 26 ++ [97 + m] else dq_wd 27
def dq_hX0 (κ m : Nat) : List Nat := if κ = 0 then dq_wd 25 ++ [32, 48 + m] else []
def dq_hX1 (κ m : Nat) : List Nat := if κ = 0 then dq_wd 25 ++ [32, 48 + m] else if κ = 1 then dq_wd 26 ++ [97 + m] else []
theorem dq_hd_len {κ m : Nat} : (dq_hX0 κ m).length ≤ 6 ∧ (dq_hX1 κ m).length ≤ 6 ∧ (dq_hXT κ m).length ≤ 6 := by
  have l25 : (dq_wd 25).length = 3 := by decide +kernel
  have l26 : (dq_wd 26).length = 4 := by decide +kernel
  have l27 : (dq_wd 27).length = 4 := by decide +kernel
  unfold dq_hX0 dq_hX1 dq_hXT
  refine ⟨?_, ?_, ?_⟩ <;> (repeat' split) <;> simp [l25, l26, l27]
theorem dq_eqn {x : Int32} {κ k : Nat} (e : x = Int32.ofNat κ) (h1 : κ < 3) (h2 : k < 3) : x = Int32.ofNat k ↔ κ = k := by
  rw [e]
  exact pu_eq (by omega) (by omega)
theorem dq_clgB {K : Int32 × dw_S × Nat × Nat → Prop} (h4 : 442 ≤ dw_n Y) (hbf : bf < dw_n Y) (X : dq_TX bf w h nb nc a cn hist err T Y) (hL : T.length < 440) (hn : 1000 < n) (C : dq_L1 Y q42 l) (hk : l.1 < 3) (hm0 : l.1 = 0 → l.2.1 < 10) (hm1 : l.1 = 1 → l.2.1 < 8) (hd : l.2.2.2 < 8) (hg : l.2.2.1 < 10) (h42 : q42 ≠ bf) (hq : dw_is Y q 12) (hA : dw_r Y q 1 = some A) (hA1 : dq_A1 Y A 23 m) (hj : j < m) (hm : m < 10) (hc : c + 9 ≤ 60) (hs : s + 113 ≤ 500) (hK : ∀ Y' c' s', c' ≤ c + 9 → s' ≤ s + 113 → dq_wr bf Y Y' → dq_TX bf w h nb nc a cn hist err (T ++ dq_lgT l.1 l.2.1 l.2.2.1 l.2.2.2) Y' → K (Int32.ofNat (j + 1), dw_pr Y' A j (some q42), c', s')) : dq_lgB n bf q q42 (Int32.ofNat j) Y c s K := by
  obtain ⟨L0, L1, L2⟩ := dq_hd_len (κ := l.1) (m := l.2.1)
  have t1 : Int32.toNatClampNeg (1 : Int32) = 1 := rfl
  have t0 : Int32.toNatClampNeg (0 : Int32) = 0 := rfl
  unfold dq_lgB
  refine dq_ck C.1 (dq_jn (fun v => v.2.1 ≤ c + (if l.1 = 0 then 1 else 0) ∧ v.2.2 ≤ s + (if l.1 = 0 then 1 else 0) ∧ dq_wr bf Y v.1 ∧ dq_TX bf w h nb nc a cn hist err (T ++ dq_hX0 l.1 l.2.1) v.1) (fun v hv => ?_) (fun f hf => ?_))
  · obtain ⟨Y1, c1, s1⟩ := v
    obtain ⟨b1, b2, W1, X1⟩ := hv
    dsimp only [] at b1 b2 W1 X1
    dsimp only []
    have C1 := dq_L1_wx (r := bf) (dq_wr_wx W1) ⟨h42, h42⟩ C
    have n1 : dw_n Y ≤ dw_n Y1 := dq_wx_n (r := bf) (dq_wr_wx W1)
    refine dq_ck C1.1 (dq_jn (fun v => v.2.1 ≤ c + 4 ∧ v.2.2 ≤ s + 56 ∧ dq_wr bf Y v.1 ∧ dq_TX bf w h nb nc a cn hist err (T ++ dq_hX1 l.1 l.2.1) v.1) (fun v hv => ?_) (fun f hf => ?_))
    · obtain ⟨Y2, c2, s2⟩ := v
      obtain ⟨d1, d2, W2, X2⟩ := hv
      dsimp only [] at d1 d2 W2 X2
      dsimp only []
      have C2 := dq_L1_wx (r := bf) (dq_wr_wx W2) ⟨h42, h42⟩ C
      refine dq_ck C2.1 (dq_jn (fun Y3 => dq_wr bf Y Y3 ∧ dq_TX bf w h nb nc a cn hist err (T ++ dq_hXT l.1 l.2.1) Y3) (fun Y3 hv => ?_) (fun f hf => ?_))
      · obtain ⟨W3, X3⟩ := hv
        have V3 : dq_wx bf bf Y Y3 := dq_wr_wx W3
        have C3 := dq_L1_wx V3 ⟨h42, h42⟩ C
        have n3 : dw_n Y ≤ dw_n Y3 := dq_wx_n V3
        exact dq_clgC (by omega) (by omega) X3 (by rw [List.length_append]; omega) hn C3 hd hg h42 (dq_is_wx V3 hq) ((dq_r_wx V3 hq.1).trans hA) (dq_A1_wx V3 hA1) hj hm (by omega) (by omega) (fun Y4 c4 s4 g1 g2 W4 X4 => hK Y4 c4 s4 (by omega) (by omega) (dq_wr_tr W3 W4) (by rw [List.append_assoc] at X4; exact X4))
      · have e2 : dw_i Y2 q42 0 = (2 : Int32) ↔ l.1 = 2 := dq_eqn (k := 2) C2.2.1 hk (by omega)
        refine dq_if (fun z => hf _ ⟨W2, ?_⟩) (fun z => dq_ck ⟨by omega, by omega⟩ (dq_write (by decide) X2 (by rw [List.length_append]; omega) hn (fun Y3 F3 X3 => hf _ ⟨dq_wr_tr W2 F3, ?_⟩)))
        · have : ¬ l.1 = 2 := fun y => z (e2.mpr y)
          have e : dq_hXT l.1 l.2.1 = dq_hX1 l.1 l.2.1 := by
            unfold dq_hXT dq_hX1
            have hc : l.1 = 0 ∨ l.1 = 1 := by omega
            rcases hc with y | y <;> rw [y] <;> rfl
          rw [e]; exact X2
        · have y : l.1 = 2 := e2.mp (Decidable.not_not.mp z)
          have e : dq_hXT l.1 l.2.1 = dq_hX1 l.1 l.2.1 ++ dq_wd 27 := by
            unfold dq_hXT dq_hX1
            rw [y]
            rfl
          rw [e, ← List.append_assoc]; exact X3
    · have e1 : dw_i Y1 q42 0 = (1 : Int32) ↔ l.1 = 1 := dq_eqn (k := 1) C1.2.1 hk (by omega)
      refine dq_if (fun z => hf _ ⟨?_, ?_, W1, ?_⟩) (fun z => ?_)
      · show c1 ≤ c + 4; split at b1 <;> omega
      · show s1 ≤ s + 56; split at b2 <;> omega
      · have : ¬ l.1 = 1 := fun y => z (e1.mpr y)
        have e : dq_hX1 l.1 l.2.1 = dq_hX0 l.1 l.2.1 := by
          unfold dq_hX1 dq_hX0
          have hc : l.1 = 0 ∨ l.1 = 2 := by omega
          rcases hc with y | y <;> rw [y] <;> rfl
        rw [e]; exact X1
      · have y : l.1 = 1 := e1.mp (Decidable.not_not.mp z)
        rw [if_neg (by omega)] at b1 b2
        have l26 : (dq_wd 26).length = 4 := by decide +kernel
        have hh0 : dq_hX0 l.1 l.2.1 = [] := by unfold dq_hX0; rw [y]; rfl
        rw [hh0, List.append_nil] at X1
        refine dq_ck ⟨by omega, by omega⟩ (fun q2 hq2 => dq_lt (dq_ck ⟨by omega, by omega⟩ ?_))
        refine dq_sbinit (Y0 := Y1) dq_fr_refl hq2 (by omega) (fun Y2 B2 => dq_ck ⟨B2.2.2.1, by omega, by omega⟩ ?_)
        refine dq_sbapp (by decide) B2 (by rw [l26]; decide) (fun Y3 B3 => ?_)
        have B3 : dq_SB Y1 q2 (dq_wd 26) Y3 := B3
        have F3 : dq_fr dq_no dq_no Y1 Y3 := B3.1
        dsimp only []
        refine dq_ck (dq_is_fr F3 C1.1) (dq_ck ⟨B3.2.2.1, by omega, by omega⟩ ?_)
        have em : dw_i Y3 q42 1 = Int32.ofNat l.2.1 := (F3.2.2.2.1 q42 1 C1.1.1 (fun z => z)).trans C1.2.2.1
        have hm8 := hm1 y
        rw [em, dq_chr ⟨l.2.1, hm8⟩]
        refine dq_sbchr (show 97 + l.2.1 < 128 by omega) B3 (by rw [l26]; decide) (fun Y4 B4 => dq_ck ⟨B4.2.2.1, by omega, by omega⟩ ?_)
        have lw : (dq_wd 26 ++ [97 + l.2.1]).length = 5 := by rw [List.length_append, l26]; rfl
        refine dq_sbstr B4 (by rw [lw]; omega) (by rw [lw]; omega) (fun st Y5 B5 => dq_ck ⟨by omega, by omega⟩ ?_)
        have F5 : dq_fr dq_no dq_no Y1 Y5 := B5.1
        refine dq_writed B5 (by omega) (dq_TX_fr F5 (fun _ z => z) X1) (by omega) hn (fun Y6 F6 X6 => hf _ ⟨?_, ?_, dq_wr_tr W1 (dq_wr_tr (dq_wr_no F5) F6), ?_⟩)
        · show c1 + 1 + 1 + 2 ≤ c + 4; omega
        · show s1 + 4 + 16 + 36 ≤ s + 56; omega
        · have e : dq_hX1 l.1 l.2.1 = dq_wd 26 ++ [97 + l.2.1] := by
            unfold dq_hX1
            rw [y]
            rfl
          rw [e]; exact X6
  · have e0 : dw_i Y q42 0 = (0 : Int32) ↔ l.1 = 0 := dq_eqn (k := 0) C.2.1 hk (by omega)
    refine dq_if (fun z => hf _ ⟨?_, ?_, dq_wr_refl, ?_⟩) (fun z => ?_)
    · show c ≤ _; omega
    · show s ≤ _; omega
    · have : ¬ l.1 = 0 := fun y => z (e0.mpr y)
      unfold dq_hX0
      rw [if_neg this, List.append_nil]
      exact X
    · have y : l.1 = 0 := e0.mp (Decidable.not_not.mp z)
      rw [t1, t0]
      refine dq_ck ⟨⟨by decide, by decide⟩, by omega, by omega⟩ (fun q6 hq6 => dq_lt ?_)
      have hq42 := C.1.1
      have F6 : dq_fr dq_no dq_no Y (dw_nw Y q6 20 1 (fun _ => 0) (fun _ => none)) := dq_fr_nw dq_fr_refl hq6
      have A6 : dq_A1 (dw_nw Y q6 20 1 (fun _ => 0) (fun _ => none)) q6 20 1 := dq_A1_new (by omega) hq6
      refine dq_ck (dq_is_fr F6 C.1) (dq_ck (dq_A1_ok (m := 0) A6 (by omega) (by omega)) (dq_lt ?_))
      have e2 : dw_i (dw_nw Y q6 20 1 (fun _ => 0) (fun _ => none)) q42 1 = Int32.ofNat l.2.1 := (dq_i_nw_n (by omega)).trans C.2.2.1
      rw [e2]
      have F7 : dq_fr dq_no dq_no Y (dw_pi (dw_nw Y q6 20 1 (fun _ => 0) (fun _ => none)) q6 0 (Int32.ofNat l.2.1)) := dq_fr_pi F6 (fun z => by omega)
      have A7 : dq_A1 (dw_pi (dw_nw Y q6 20 1 (fun _ => 0) (fun _ => none)) q6 0 (Int32.ofNat l.2.1)) q6 20 1 := dq_A1_fr (Si := fun _ _ => True) (Sr := fun _ _ => True) (dq_fr_pi dq_fr_refl (fun _ => trivial)) A6
      have e7 : dw_i (dw_pi (dw_nw Y q6 20 1 (fun _ => 0) (fun _ => none)) q6 0 (Int32.ofNat l.2.1)) q6 0 = Int32.ofNat l.2.1 := dq_i_pi_s
      generalize dw_pi (dw_nw Y q6 20 1 (fun _ => 0) (fun _ => none)) q6 0 (Int32.ofNat l.2.1) = Y7 at F7 A7 e7 ⊢
      have hm10 := hm0 y
      refine dq_ck ⟨by omega, by omega⟩ (dq_writeAll (D := fun _ => l.2.1) (by decide) (by omega) A7 (fun i hi => ?_) (by omega) (dq_TX_fr F7 (fun _ z => z) X) (by omega) hn (fun Y8 F8 X8 => hf _ ⟨?_, ?_, dq_wr_tr (dq_wr_no F7) F8, ?_⟩))
      · have e : i = 0 := by omega
        subst e
        exact ⟨e7, hm10⟩
      · show c + 1 ≤ _; rw [if_pos y]; omega
      · show s + 1 ≤ _; rw [if_pos y]; omega
      · unfold dq_hX0
        rw [if_pos y]
        exact X8
end DQV
