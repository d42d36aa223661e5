/-! the law's clue: a leg's bearing and give -/
section DQU
variable {Y Y0 Y' Y'' : dw_S} {r n bf mk w h nb nc cn q q42 j m A c s : Nat} {a : Nat → Int32} {hist : Nat → Nat → Int32} {err : Int32} {T : List Nat} {l : dq_Lg}
/-- a leg's bearing and give are written, the leg is stored -/
def dq_lgC (n r1 q21 q42 : Nat) (lI : Int32) (Y : dw_S) (c s : Nat) (K : Int32 × dw_S × Nat × Nat → Prop) : Prop :=
pw_ck ((c + 1) ≤ 60 ∧ (s + 4) ≤ 500) (
pw_al (dw_n Y) (fun (q63 : Nat) => pw_lt (dw_nw Y q63 17 0 (fun _ => 0) (fun _ => none)) (fun (Y64 : dw_S) =>
pw_ck (((c + 1) + 1) ≤ 60 ∧ ((s + 4) + 16) ≤ 500) (
dw_P_J4_init_da8c8 q63 Y64 (fun (r65 : dw_S) =>
pw_ck (dw_is r65 q63 17 ∧ ((c + 1) + 1) ≤ 60 ∧ ((s + 4) + 16) ≤ 500) (
dw_P_J4_append_15ec4 q63 21 r65 (fun (r66 : Nat × dw_S) =>
pw_ck (dw_is r66.2 q42 14) (
pw_ck (tw_ok (dw_i r66.2 q42 3) 8 = true) (
pw_ck ((13 + Int32.toNatClampNeg (dw_i r66.2 q42 3)) < 33) (
pw_ck (dw_is r66.2 r66.1 17 ∧ ((c + 1) + 1) ≤ 60 ∧ ((s + 4) + 16) ≤ 500) (
dw_P_J4_append_15ec4 r66.1 (13 + Int32.toNatClampNeg (dw_i r66.2 q42 3)) r66.2 (fun (r68 : Nat × dw_S) =>
pw_ck (dw_is r68.2 r68.1 17 ∧ (((c + 1) + 1) + 2) ≤ 60 ∧ (((s + 4) + 16) + 36) ≤ 500) (
dw_P_J4_toString_0e30d r68.1 r68.2 (fun (r69 : Nat × dw_S) =>
pw_ck ((((c + 1) + 1) + 2) ≤ 60 ∧ (((s + 4) + 16) + 36) ≤ 500) (
dw_P_L_writed n r1 r69.1 r69.2 (fun (r70 : dw_S) =>
pw_ck (dw_is r70 q42 14) (
tw_jn (fun (a71 : dw_S × Nat × Nat) =>
pw_ck (dw_is a71.1 q21 12) (
pw_nn (dw_r a71.1 q21 1) (fun (r73 : Nat) =>
pw_ck (dw_is a71.1 r73 23 ∧ tw_ok lI (dw_l a71.1 r73) = true ∧ ∀ v, (some q42) = some v → dw_is a71.1 v 14) (pw_lt (dw_pr a71.1 r73 (Int32.toNatClampNeg lI) (some q42)) (fun (Y74 : dw_S) =>
pw_lt (lI + (1 : Int32)) (fun (v75 : Int32) =>
K (v75, Y74, a71.2.1, a71.2.2))))))) (fun (j72 : (dw_S × Nat × Nat) → Prop) =>
if (dw_i r70 q42 2) ≤ 0 then (j72 (r70, (((c + 1) + 1) + 2), (((s + 4) + 16) + 36)))
else (pw_ck ((¬ (1 : Int32) < 0 ∧ (Int32.toNatClampNeg (1 : Int32)) ≤ 10000) ∧ ((((c + 1) + 1) + 2) + 1) ≤ 60 ∧ ((((s + 4) + 16) + 36) + (Int32.toNatClampNeg (1 : Int32))) ≤ 500) (
pw_al (dw_n r70) (fun (q76 : Nat) => pw_lt (dw_nw r70 q76 20 (Int32.toNatClampNeg (1 : Int32)) (fun _ => 0) (fun _ => none)) (fun (Y77 : dw_S) =>
pw_ck (dw_is Y77 q42 14) (
pw_ck (dw_is Y77 q76 20 ∧ tw_ok (0 : Int32) (dw_l Y77 q76) = true) (pw_lt (dw_pi Y77 q76 (Int32.toNatClampNeg (0 : Int32)) (dw_i Y77 q42 2)) (fun (Y78 : dw_S) =>
pw_ck (((((c + 1) + 1) + 2) + 1) ≤ 60 ∧ ((((s + 4) + 16) + 36) + (Int32.toNatClampNeg (1 : Int32))) ≤ 500) (
dw_P_L_writeAll n r1 28 q76 Y78 (fun (r79 : dw_S) =>
j72 (r79, ((((c + 1) + 1) + 2) + 1), ((((s + 4) + 16) + 36) + (Int32.toNatClampNeg (1 : Int32)))))))))))))))))))))))))))))))
/-- a leg that is held -/
def dq_L1 (Y : dw_S) (q : Nat) (l : dq_Lg) : Prop := dw_is Y q 14 ∧ dw_i Y q 0 = Int32.ofNat l.1 ∧ dw_i Y q 1 = Int32.ofNat l.2.1 ∧ dw_i Y q 2 = Int32.ofNat l.2.2.1 ∧ dw_i Y q 3 = Int32.ofNat l.2.2.2
theorem dq_L1_wx (F : dq_wx bf r Y Y') (h : q ≠ bf ∧ q ≠ r) (C : dq_L1 Y q l) : dq_L1 Y' q l := by
  obtain ⟨c1, c2, c3, c4, c5⟩ := C
  refine ⟨dq_is_wx F c1, ?_, ?_, ?_, ?_⟩ <;> rw [dq_i_wx F c1.1 h.1 h.2] <;> assumption
def dq_tlT (d g : Nat) : List Nat := [32] ++ dq_wd (13 + d) ++ (if 0 < g then dq_wd 28 ++ [32, 48 + g] else [])
theorem dq_w13 : ∀ d : Fin 8, (dq_wd (13 + d.val)).length ≤ 2 := by decide +kernel
theorem dq_clgC {K : Int32 × dw_S × Nat × Nat → Prop} (h4 : 442 ≤ dw_n Y) (hbf : bf < dw_n Y) (X : dq_TX bf w h nb nc a cn hist err T Y) (hL : T.length < 450) (hn : 1000 < n) (C : dq_L1 Y q42 l) (hd : l.2.2.2 < 8) (hg : l.2.2.1 < 10) (h42 : q42 ≠ bf) (hq : dw_is Y q 12) (hA : dw_r Y q 1 = some A) (hA1 : dq_A1 Y A 23 m) (hj : j < m) (hm : m < 10) (hc : c + 5 ≤ 60) (hs : s + 57 ≤ 500) (hK : ∀ Y' c' s', c' ≤ c + 5 → s' ≤ s + 57 → dq_wr bf Y Y' → dq_TX bf w h nb nc a cn hist err (T ++ dq_tlT l.2.2.2 l.2.2.1) Y' → K (Int32.ofNat (j + 1), dw_pr Y' A j (some q42), c', s')) : dq_lgC n bf q q42 (Int32.ofNat j) Y c s K := by
  unfold dq_lgC
  have l28 : (dq_wd 28).length = 5 := by decide +kernel
  have e21 : dq_wd 21 = [32] := by decide +kernel
  have l13 := dq_w13 ⟨l.2.2.2, hd⟩
  dsimp only [] at l13
  refine dq_ck ⟨by omega, by omega⟩ (fun q2 hq2 => dq_lt (dq_ck ⟨by omega, by omega⟩ ?_))
  refine dq_sbinit (Y0 := Y) dq_fr_refl hq2 h4 (fun Y1 B1 => dq_ck ⟨B1.2.2.1, by omega, by omega⟩ ?_)
  refine dq_sbapp (by decide) B1 (by rw [e21]; decide) (fun Y2 B2 => ?_)
  rw [e21] at B2
  have F2 : dq_fr dq_no dq_no Y Y2 := B2.1
  have e3 : dw_i Y2 q42 3 = Int32.ofNat l.2.2.2 := (F2.2.2.2.1 q42 3 C.1.1 (fun z => z)).trans C.2.2.2.2
  dsimp only []
  rw [e3, pu_n (show l.2.2.2 < 2147483648 by omega)]
  refine dq_ck (dq_is_fr F2 C.1) (dq_ck (pu_ok (by omega) hd) (dq_ck (by omega) (dq_ck ⟨B2.2.2.1, by omega, by omega⟩ ?_)))
  refine dq_sbapp (by omega) B2 (by show 1 + _ ≤ 16; omega) (fun Y3 B3 => dq_ck ⟨B3.2.2.1, by omega, by omega⟩ ?_)
  have B3 : dq_SB Y q2 ([32] ++ dq_wd (13 + l.2.2.2)) Y3 := B3
  have lw : ([32] ++ dq_wd (13 + l.2.2.2)).length ≤ 3 := by rw [List.length_append]; show 1 + _ ≤ 3; omega
  refine dq_sbstr B3 (by omega) (by rw [List.length_append]; show 0 < 1 + _; omega) (fun st Y4 B4 => dq_ck ⟨by omega, by omega⟩ ?_)
  have F4 : dq_fr dq_no dq_no Y Y4 := B4.1
  refine dq_writed B4 hbf (dq_TX_fr F4 (fun _ z => z) X) (by omega) hn (fun Y5 F5 X5 => ?_)
  have W5 : dq_wr bf Y Y5 := dq_wr_tr (dq_wr_no F4) F5
  have V5 : dq_wx bf bf Y Y5 := dq_wr_wx W5
  have C5 := dq_L1_wx V5 ⟨h42, h42⟩ C
  refine dq_ck C5.1 (dq_jn (fun v => v.2.1 ≤ c + 5 ∧ v.2.2 ≤ s + 57 ∧ dq_wr bf Y v.1 ∧ dq_TX bf w h nb nc a cn hist err (T ++ dq_tlT l.2.2.2 l.2.2.1) v.1) (fun v hv => ?_) (fun f hf => ?_))
  · obtain ⟨Y6, c6, s6⟩ := v
    obtain ⟨h1, h2, W6, X6⟩ := hv
    dsimp only [] at h1 h2 W6 X6
    dsimp only []
    have V6 : dq_wx bf bf Y Y6 := dq_wr_wx W6
    have A6 := dq_A1_wx V6 hA1
    have C6 := dq_L1_wx V6 ⟨h42, h42⟩ C
    refine dq_ck (dq_is_wx V6 hq) (dq_nn ((dq_r_wx V6 hq.1).trans hA) (dq_ck ⟨A6.1, (dq_A1_ok A6 hj (by omega)).2, fun v hv => by cases hv; exact C6.1⟩ (dq_lt (dq_lt ?_))))
    rw [pu_n (show j < 2147483648 by omega), show Int32.ofNat j + (1 : Int32) = Int32.ofNat (j + 1) from pu_add j 1]
    exact hK Y6 c6 s6 h1 h2 W6 X6
  · have e0 : (Int32.ofNat l.2.2.1 ≤ 0) ↔ l.2.2.1 ≤ 0 := pu_le (b := 0) (by omega) (by omega)
    rw [C5.2.2.2.1]
    refine dq_if (fun z => hf _ ⟨?_, ?_, W5, ?_⟩) (fun z => ?_)
    · show c + 1 + 1 + 2 ≤ c + 5; omega
    · show s + 4 + 16 + 36 ≤ s + 57; omega
    · unfold dq_tlT
      rw [if_neg (by have := e0.mp z; omega), List.append_nil]
      exact X5
    · have hg0 : 0 < l.2.2.1 := by
        cases Nat.eq_zero_or_pos l.2.2.1 with
        | inl e => exact absurd (e0.mpr (by omega)) z
        | inr e => exact e
      refine dq_ck ⟨⟨by decide, by decide⟩, by omega, ?_⟩ (fun q6 hq6 => dq_lt ?_)
      · show s + 4 + 16 + 36 + 1 ≤ 500; omega
      have F6 : dq_fr dq_no dq_no Y5 (dw_nw Y5 q6 20 1 (fun _ => 0) (fun _ => none)) := dq_fr_nw dq_fr_refl hq6
      have hY5 := dq_wx_n V5
      have A6 : dq_A1 (dw_nw Y5 q6 20 1 (fun _ => 0) (fun _ => none)) q6 20 1 := dq_A1_new (by omega) hq6
      have hq42 := C5.1.1
      refine dq_ck (dq_is_fr F6 C5.1) (dq_ck (dq_A1_ok (m := 0) A6 (by omega) (by omega)) (dq_lt ?_))
      have e2 : dw_i (dw_nw Y5 q6 20 1 (fun _ => 0) (fun _ => none)) q42 2 = Int32.ofNat l.2.2.1 := (dq_i_nw_n (by omega)).trans C5.2.2.2.1
      have t1 : Int32.toNatClampNeg (1 : Int32) = 1 := rfl
      have t0 : Int32.toNatClampNeg (0 : Int32) = 0 := rfl
      rw [t1, t0, e2]
      have F7 : dq_fr dq_no dq_no Y5 (dw_pi (dw_nw Y5 q6 20 1 (fun _ => 0) (fun _ => none)) q6 0 (Int32.ofNat l.2.2.1)) := dq_fr_pi F6 (fun z => by omega)
      have A7 : dq_A1 (dw_pi (dw_nw Y5 q6 20 1 (fun _ => 0) (fun _ => none)) q6 0 (Int32.ofNat l.2.2.1)) q6 20 1 := dq_A1_fr (Si := fun _ _ => True) (Sr := fun _ _ => True) (dq_fr_pi dq_fr_refl (fun _ => trivial)) A6
      have e7 : dw_i (dw_pi (dw_nw Y5 q6 20 1 (fun _ => 0) (fun _ => none)) q6 0 (Int32.ofNat l.2.2.1)) q6 0 = Int32.ofNat l.2.2.1 := dq_i_pi_s
      generalize dw_pi (dw_nw Y5 q6 20 1 (fun _ => 0) (fun _ => none)) q6 0 (Int32.ofNat l.2.2.1) = Y7 at F7 A7 e7 ⊢
      refine dq_ck ⟨by omega, by omega⟩ (dq_writeAll (D := fun _ => l.2.2.1) (by decide) (by omega) A7 (fun i hi => ?_) (by omega) (dq_TX_fr F7 (fun _ z => z) X5) ?_ hn (fun Y8 F8 X8 => hf _ ⟨?_, ?_, dq_wr_tr W5 (dq_wr_tr (dq_wr_no F7) F8), ?_⟩))
      · have e : i = 0 := by omega
        subst e
        exact ⟨e7, hg⟩
      · rw [List.length_append]; omega
      · show c + 1 + 1 + 2 + 1 ≤ c + 5; omega
      · show s + 4 + 16 + 36 + 1 ≤ s + 57; omega
      · unfold dq_tlT
        rw [if_pos hg0]
        have : T ++ ([32] ++ dq_wd (13 + l.2.2.2) ++ (dq_wd 28 ++ [32, 48 + l.2.2.1])) = T ++ ([32] ++ dq_wd (13 + l.2.2.2)) ++ (dq_wd 28 ++ dq_nums (fun _ => l.2.2.1) 1) := by
          rw [show dq_nums (fun _ => l.2.2.1) 1 = [32, 48 + l.2.2.1] from rfl]; simp only [List.append_assoc]
        rw [this]
        exact X8
end DQU
