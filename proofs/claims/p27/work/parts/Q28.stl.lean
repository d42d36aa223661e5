/-! the law's clue: its starts, the loop -/
section DQT
variable {Y Y0 Y' Y'' : dw_S} {r n bf mk fst w h nb nc cn : Nat} {a : Nat → Int32} {hist : Nat → Nat → Int32} {err : Int32} {T : List Nat}
/-- what is left when the starts are written -/
def dq_legs (n r1 r2 q21 : Nat) (x3 : Int32) (Y : dw_S) (c s : Nat) (Q : Nat × dw_S → Prop) : Prop :=
pw_ck (dw_is Y r2 15 ∧ c ≤ 60 ∧ s ≤ 500) (
dw_P_X15_below r2 (4 : Int32) Y (fun (r33 : Int32 × dw_S) =>
pw_ck ((¬ r33.1 < 0 ∧ (Int32.toNatClampNeg r33.1) ≤ 10000) ∧ (c + 1) ≤ 60 ∧ (s + (Int32.toNatClampNeg r33.1)) ≤ 500) (
pw_al (dw_n r33.2) (fun (q34 : Nat) => pw_lt (dw_nw r33.2 q34 23 (Int32.toNatClampNeg r33.1) (fun _ => 0) (fun _ => none)) (fun (Y35 : dw_S) =>
pw_ck (dw_is Y35 q21 12) (pw_lt (dw_pr Y35 q21 1 (some q34)) (fun (Y36 : dw_S) =>
pw_lt (0 : Int32) (fun (v37 : Int32) =>
pw_lp (fun (k39 : (Int32 × dw_S × Nat × Nat) → Prop) (a38 : Int32 × dw_S × Nat × Nat) =>
pw_ck (dw_is a38.2.1 q21 12) (
pw_nn (dw_r a38.2.1 q21 1) (fun (r40 : Nat) =>
pw_ck (dw_is a38.2.1 r40 23) (
if (Int32.ofNat (dw_l a38.2.1 r40)) ≤ a38.1 then (pw_ck (a38.2.2.1 ≤ 60 ∧ a38.2.2.2 ≤ 500) (
dw_P_L_write n r1 29 a38.2.1 (fun (r41 : dw_S) =>
pw_ck (a38.2.2.1 ≤ 60 ∧ a38.2.2.2 ≤ 500) (Q (q21, r41)))))
else (pw_ck ((a38.2.2.1 + 1) ≤ 60 ∧ (a38.2.2.2 + 4) ≤ 500) (
pw_al (dw_n a38.2.1) (fun (q42 : Nat) => pw_lt (dw_nw a38.2.1 q42 14 0 (fun _ => 0) (fun _ => none)) (fun (Y43 : dw_S) =>
pw_ck ((a38.2.2.1 + 1) ≤ 60 ∧ (a38.2.2.2 + 4) ≤ 500) (
dw_P_X14_init q42 Y43 (fun (r44 : Unit) =>
pw_ck (dw_is Y43 r2 15 ∧ (a38.2.2.1 + 1) ≤ 60 ∧ (a38.2.2.2 + 4) ≤ 500) (
dw_P_X15_below r2 (3 : Int32) Y43 (fun (r45 : Int32 × dw_S) =>
tw_jn (fun (a46 : Int32 × dw_S) =>
pw_ck (dw_is a46.2 q42 14) (pw_lt (dw_pi a46.2 q42 0 a46.1) (fun (Y48 : dw_S) =>
pw_ck (dw_is Y48 r2 15 ∧ (a38.2.2.1 + 1) ≤ 60 ∧ (a38.2.2.2 + 4) ≤ 500) (
dw_P_X15_below r2 (8 : Int32) Y48 (fun (r49 : Int32 × dw_S) =>
pw_ck (dw_is r49.2 q42 14) (pw_lt (dw_pi r49.2 q42 3 r49.1) (fun (Y50 : dw_S) =>
pw_ck (dw_is Y50 q42 14) (
tw_jn (fun (a51 : Int32 × dw_S) =>
pw_ck (dw_is a51.2 q42 14) (pw_lt (dw_pi a51.2 q42 1 a51.1) (fun (Y53 : dw_S) =>
pw_ck (dw_is Y53 q42 14) (
tw_jn (fun (a54 : Int32 × dw_S) =>
pw_ck (dw_is a54.2 q42 14) (pw_lt (dw_pi a54.2 q42 2 a54.1) (fun (Y56 : dw_S) =>
pw_ck (dw_is Y56 q42 14) (
tw_jn (fun (a57 : dw_S × Nat × Nat) =>
pw_ck (dw_is a57.1 q42 14) (
tw_jn (fun (a59 : dw_S × Nat × Nat) =>
pw_ck (dw_is a59.1 q42 14) (
tw_jn (fun (a61 : dw_S) =>
pw_ck ((a59.2.1 + 1) ≤ 60 ∧ (a59.2.2 + 4) ≤ 500) (
pw_al (dw_n a61) (fun (q63 : Nat) => pw_lt (dw_nw a61 q63 17 0 (fun _ => 0) (fun _ => none)) (fun (Y64 : dw_S) =>
pw_ck (((a59.2.1 + 1) + 1) ≤ 60 ∧ ((a59.2.2 + 4) + 16) ≤ 500) (
dw_P_J4_init_da8c8 q63 Y64 (fun (r65 : dw_S) =>
pw_ck (dw_is r65 q63 17 ∧ ((a59.2.1 + 1) + 1) ≤ 60 ∧ ((a59.2.2 + 4) + 16) ≤ 500) (
dw_P_J4_append_15ec4 q63 21 r65 (fun (r66 : Nat × dw_S) =>
pw_ck (dw_is r66.2 q42 14) (
pw_ck (tw_ok (dw_i r66.2 q42 3) 8 = true) (
pw_ck ((13 + Int32.toNatClampNeg (dw_i r66.2 q42 3)) < 33) (
pw_ck (dw_is r66.2 r66.1 17 ∧ ((a59.2.1 + 1) + 1) ≤ 60 ∧ ((a59.2.2 + 4) + 16) ≤ 500) (
dw_P_J4_append_15ec4 r66.1 (13 + Int32.toNatClampNeg (dw_i r66.2 q42 3)) r66.2 (fun (r68 : Nat × dw_S) =>
pw_ck (dw_is r68.2 r68.1 17 ∧ (((a59.2.1 + 1) + 1) + 2) ≤ 60 ∧ (((a59.2.2 + 4) + 16) + 36) ≤ 500) (
dw_P_J4_toString_0e30d r68.1 r68.2 (fun (r69 : Nat × dw_S) =>
pw_ck ((((a59.2.1 + 1) + 1) + 2) ≤ 60 ∧ (((a59.2.2 + 4) + 16) + 36) ≤ 500) (
dw_P_L_writed n r1 r69.1 r69.2 (fun (r70 : dw_S) =>
pw_ck (dw_is r70 q42 14) (
tw_jn (fun (a71 : dw_S × Nat × Nat) =>
pw_ck (dw_is a71.1 q21 12) (
pw_nn (dw_r a71.1 q21 1) (fun (r73 : Nat) =>
pw_ck (dw_is a71.1 r73 23 ∧ tw_ok a38.1 (dw_l a71.1 r73) = true ∧ ∀ v, (some q42) = some v → dw_is a71.1 v 14) (pw_lt (dw_pr a71.1 r73 (Int32.toNatClampNeg a38.1) (some q42)) (fun (Y74 : dw_S) =>
pw_lt (a38.1 + (1 : Int32)) (fun (v75 : Int32) =>
k39 (v75, Y74, a71.2.1, a71.2.2))))))) (fun (j72 : (dw_S × Nat × Nat) → Prop) =>
if (dw_i r70 q42 2) ≤ 0 then (j72 (r70, (((a59.2.1 + 1) + 1) + 2), (((a59.2.2 + 4) + 16) + 36)))
else (pw_ck ((¬ (1 : Int32) < 0 ∧ (Int32.toNatClampNeg (1 : Int32)) ≤ 10000) ∧ ((((a59.2.1 + 1) + 1) + 2) + 1) ≤ 60 ∧ ((((a59.2.2 + 4) + 16) + 36) + (Int32.toNatClampNeg (1 : Int32))) ≤ 500) (
pw_al (dw_n r70) (fun (q76 : Nat) => pw_lt (dw_nw r70 q76 20 (Int32.toNatClampNeg (1 : Int32)) (fun _ => 0) (fun _ => none)) (fun (Y77 : dw_S) =>
pw_ck (dw_is Y77 q42 14) (
pw_ck (dw_is Y77 q76 20 ∧ tw_ok (0 : Int32) (dw_l Y77 q76) = true) (pw_lt (dw_pi Y77 q76 (Int32.toNatClampNeg (0 : Int32)) (dw_i Y77 q42 2)) (fun (Y78 : dw_S) =>
pw_ck (((((a59.2.1 + 1) + 1) + 2) + 1) ≤ 60 ∧ ((((a59.2.2 + 4) + 16) + 36) + (Int32.toNatClampNeg (1 : Int32))) ≤ 500) (
dw_P_L_writeAll n r1 28 q76 Y78 (fun (r79 : dw_S) =>
j72 (r79, ((((a59.2.1 + 1) + 1) + 2) + 1), ((((a59.2.2 + 4) + 16) + 36) + (Int32.toNatClampNeg (1 : Int32)))))))))))))))))))))))))))))))) (fun (j62 : (dw_S) → Prop) =>
if ¬ (dw_i a59.1 q42 0) = (2 : Int32) then (j62 a59.1)
else (pw_ck (a59.2.1 ≤ 60 ∧ a59.2.2 ≤ 500) (
dw_P_L_write n r1 27 a59.1 (fun (r80 : dw_S) =>
j62 r80)))))) (fun (j60 : (dw_S × Nat × Nat) → Prop) =>
if ¬ (dw_i a57.1 q42 0) = (1 : Int32) then (j60 (a57.1, a57.2.1, a57.2.2))
else (pw_ck ((a57.2.1 + 1) ≤ 60 ∧ (a57.2.2 + 4) ≤ 500) (
pw_al (dw_n a57.1) (fun (q81 : Nat) => pw_lt (dw_nw a57.1 q81 17 0 (fun _ => 0) (fun _ => none)) (fun (Y82 : dw_S) =>
pw_ck (((a57.2.1 + 1) + 1) ≤ 60 ∧ ((a57.2.2 + 4) + 16) ≤ 500) (
dw_P_J4_init_da8c8 q81 Y82 (fun (r83 : dw_S) =>
pw_ck (dw_is r83 q81 17 ∧ ((a57.2.1 + 1) + 1) ≤ 60 ∧ ((a57.2.2 + 4) + 16) ≤ 500) (
dw_P_J4_append_15ec4 q81 26 r83 (fun (r84 : Nat × dw_S) =>
pw_ck (dw_is r84.2 q42 14) (
pw_ck (dw_is r84.2 r84.1 17 ∧ ((a57.2.1 + 1) + 1) ≤ 60 ∧ ((a57.2.2 + 4) + 16) ≤ 500) (
dw_P_J4_append_cf468 r84.1 ((Int32.toUInt32 ((97 : Int32) + (dw_i r84.2 q42 1)) % 65536).toInt32) r84.2 (fun (r85 : Nat × dw_S) =>
pw_ck (dw_is r85.2 r85.1 17 ∧ (((a57.2.1 + 1) + 1) + 2) ≤ 60 ∧ (((a57.2.2 + 4) + 16) + 36) ≤ 500) (
dw_P_J4_toString_0e30d r85.1 r85.2 (fun (r86 : Nat × dw_S) =>
pw_ck ((((a57.2.1 + 1) + 1) + 2) ≤ 60 ∧ (((a57.2.2 + 4) + 16) + 36) ≤ 500) (
dw_P_L_writed n r1 r86.1 r86.2 (fun (r87 : dw_S) =>
j60 (r87, (((a57.2.1 + 1) + 1) + 2), (((a57.2.2 + 4) + 16) + 36)))))))))))))))))))) (fun (j58 : (dw_S × Nat × Nat) → Prop) =>
if ¬ (dw_i Y56 q42 0) = 0 then (j58 (Y56, (a38.2.2.1 + 1), (a38.2.2.2 + 4)))
else (pw_ck ((¬ (1 : Int32) < 0 ∧ (Int32.toNatClampNeg (1 : Int32)) ≤ 10000) ∧ ((a38.2.2.1 + 1) + 1) ≤ 60 ∧ ((a38.2.2.2 + 4) + (Int32.toNatClampNeg (1 : Int32))) ≤ 500) (
pw_al (dw_n Y56) (fun (q88 : Nat) => pw_lt (dw_nw Y56 q88 20 (Int32.toNatClampNeg (1 : Int32)) (fun _ => 0) (fun _ => none)) (fun (Y89 : dw_S) =>
pw_ck (dw_is Y89 q42 14) (
pw_ck (dw_is Y89 q88 20 ∧ tw_ok (0 : Int32) (dw_l Y89 q88) = true) (pw_lt (dw_pi Y89 q88 (Int32.toNatClampNeg (0 : Int32)) (dw_i Y89 q42 1)) (fun (Y90 : dw_S) =>
pw_ck (((a38.2.2.1 + 1) + 1) ≤ 60 ∧ ((a38.2.2.2 + 4) + (Int32.toNatClampNeg (1 : Int32))) ≤ 500) (
dw_P_L_writeAll n r1 25 q88 Y90 (fun (r91 : dw_S) =>
j58 (r91, ((a38.2.2.1 + 1) + 1), ((a38.2.2.2 + 4) + (Int32.toNatClampNeg (1 : Int32)))))))))))))))))) (fun (j55 : (Int32 × dw_S) → Prop) =>
if ¬ (dw_i Y53 q42 0) = 0 then (j55 ((0 : Int32), Y53))
else (pw_ck (dw_is Y53 r2 15 ∧ (a38.2.2.1 + 1) ≤ 60 ∧ (a38.2.2.2 + 4) ≤ 500) (
dw_P_X15_below r2 (3 : Int32) Y53 (fun (r92 : Int32 × dw_S) =>
j55 (r92.1, r92.2))))))))) (fun (j52 : (Int32 × dw_S) → Prop) =>
if ¬ (dw_i Y50 q42 0) = 0 then (pw_ck (dw_is Y50 q42 14) (
if ¬ (dw_i Y50 q42 0) = (1 : Int32) then (j52 ((0 : Int32), Y50))
else (pw_ck (dw_is Y50 r2 15 ∧ (a38.2.2.1 + 1) ≤ 60 ∧ (a38.2.2.2 + 4) ≤ 500) (
dw_P_X15_below r2 x3 Y50 (fun (r93 : Int32 × dw_S) =>
j52 (r93.1, r93.2))))))
else (pw_ck (dw_is Y50 r2 15 ∧ (a38.2.2.1 + 1) ≤ 60 ∧ (a38.2.2.2 + 4) ≤ 500) (
dw_P_X15_below r2 (5 : Int32) Y50 (fun (r94 : Int32 × dw_S) =>
j52 (r94.1, r94.2))))))))))))) (fun (j47 : (Int32 × dw_S) → Prop) =>
if ¬ r45.1 = 0 then (j47 ((0 : Int32), r45.2))
else (pw_ck (dw_is r45.2 r2 15 ∧ (a38.2.2.1 + 1) ≤ 60 ∧ (a38.2.2.2 + 4) ≤ 500) (
dw_P_X15_below r2 (2 : Int32) r45.2 (fun (r95 : Int32 × dw_S) =>
j47 (((1 : Int32) + r95.1), r95.2))))))))))))))))) n (v37, Y36, (c + 1), (s + (Int32.toNatClampNeg r33.1)))))))))))
theorem dq_clstarts {Q : Nat × dw_S → Prop} (hr : dw_is Y r 15) (hbf : dw_is Y bf 20) (hrb : r ≠ bf) (h4 : 442 ≤ dw_n Y) (hmk : 1 ≤ mk ∧ mk ≤ 3) (X : dq_TX bf w h nb nc a cn hist err T Y) (hL : T.length < 450) (hn : 1000 < n) (hE : ∀ Y' q s fst i c sl, dw_n Y ≤ q → dw_n Y ≤ s → 1 ≤ i → i ≤ 2 → i ≤ mk → fst < mk → dq_wx bf r Y Y' → dq_TX bf w h nb nc a cn hist err (T ++ (dq_wd 22 ++ dq_stX fst mk i)) Y' → dq_C1 Y' q s i (fun j => Int32.ofNat ((fst + j) % mk)) → c ≤ 13 → sl ≤ 131 → dq_legs n bf r q (Int32.ofNat mk) Y' c sl Q) : dw_P_L_randomClue n bf r (Int32.ofNat mk) Y Q := by
  have hb0 := hbf.1
  have hr0 := hr.1
  have l22 : (dq_wd 22).length = 5 := by decide +kernel
  have l23 : (dq_wd 23).length = 4 := by decide +kernel
  unfold dw_P_L_randomClue
  refine fun q hq => dq_lt (dq_cinit (dq_is_new h4 hq) (fun Y1 s0 l0 F1 e0 A0 e1 A1 e2 hs hl hne => ?_))
  have hs : q + 1 ≤ s0 := hs
  have Fn : dq_fr dq_no dq_no Y (dw_nw Y q 12 0 (fun _ => 0) (fun _ => none)) := dq_fr_nw dq_fr_refl hq
  have W1 : dq_wx bf r Y Y1 := dq_wx_fr (dq_wx_fr dq_wx_refl Fn (fun _ _ _ z => absurd z id) (fun _ _ _ z => z)) F1 (fun k j hk (z : k = q) => by omega) (fun k j hk (z : k = q) => by omega)
  have X1 := dq_TX_fr F1 (fun j (z : bf = q) => by omega) (dq_TX_fr Fn (fun _ z => z) X)
  have C1 : dq_C1 Y1 q s0 0 (fun _ => 0) := ⟨dq_is_fr F1 (dq_is_new h4 hq), e0, A0, fun j hj => absurd hj (Nat.not_lt_zero _), e2⟩
  refine dq_write (by decide) X1 (by omega) hn (fun Y2 F2 X2 => ?_)
  have W2 := dq_wx_wr W1 F2
  refine dq_ck (dq_is_wx W2 hr) (dq_below (dq_is_wx W2 hr) (by omega) (by omega) (fun fst Y3 hf F3 => dq_lt (dq_lt ?_)))
  have W23 : dq_wx bf r Y2 Y3 := dq_wx_fr dq_wx_refl F3 (fun k j hk z => Or.inr z) (fun _ _ _ z => z)
  have W3 := dq_wx_tr W2 W23
  have X3 := dq_TX_fr F3 (fun j (z : bf = r) => hrb z.symm) X2
  have C3 : dq_C1 Y3 q s0 0 (fun j => Int32.ofNat ((fst + j) % mk)) := by
    have := dq_C1_wx (dq_wx_tr (dq_wr_wx F2) W23) ⟨by omega, by omega⟩ ⟨by omega, by omega⟩ C1
    obtain ⟨d1, d2, d3, -, d5⟩ := this
    exact ⟨d1, d2, d3, fun j hj => absurd hj (Nat.not_lt_zero _), d5⟩
  refine dq_lp (fun v => 3 - Int32.toNatClampNeg v.1) (fun v => ∃ i s, v.1 = Int32.ofNat i ∧ i ≤ 2 ∧ i ≤ mk ∧ v.2.2.1 = 3 + 5 * i ∧ v.2.2.2 = 3 + 64 * i ∧ dw_n Y ≤ s ∧ dq_wx bf r Y v.2.1 ∧ dq_TX bf w h nb nc a cn hist err (T ++ (dq_wd 22 ++ dq_stX fst mk i)) v.2.1 ∧ dq_C1 v.2.1 q s i (fun j => Int32.ofNat ((fst + j) % mk))) (fun v K hI hK => ?_) n _ ⟨0, s0, rfl, by omega, by omega, rfl, rfl, by omega, W3, by rw [show dq_stX fst mk 0 = [] from rfl, List.append_nil]; exact X3, C3⟩ (by show 3 - 0 < n; omega)
  obtain ⟨v1, Yv, cc, ss⟩ := v
  obtain ⟨i, s, hv1, hi2, him, hc, hsl, hs', Wv, Xv, Cv⟩ := hI
  dsimp only [] at hv1 hc hsl Wv Xv Cv hK
  dsimp only []
  subst hv1 hc hsl
  refine dq_ck ⟨dq_is_wx Wv hr, by omega, by omega⟩ (dq_below (b := 2) (dq_is_wx Wv hr) (by omega) (by omega) (fun v Y4 hv F4 => ?_))
  have W4' : dq_wx bf r Yv Y4 := dq_wx_fr dq_wx_refl F4 (fun k j hk z => Or.inr z) (fun _ _ _ z => z)
  have W4 := dq_wx_tr Wv W4'
  have X4 := dq_TX_fr F4 (fun j (z : bf = r) => hrb z.symm) Xv
  have C4 := dq_C1_wx W4' ⟨by omega, by omega⟩ ⟨by omega, by omega⟩ Cv
  refine dq_jn (fun _ : Unit => 1 ≤ i) (fun _ h1 => hE Y4 q s fst i (3 + 5 * i) (3 + 64 * i) hq hs' h1 hi2 him hf W4 X4 C4 (by omega) (by omega)) (fun j hj => ?_)
  rw [show (1 : Int32) + Int32.ofNat v = Int32.ofNat (1 + v) from pu_add 1 v]
  refine dq_if (fun z => hj () (by rw [pu_le (by omega) (by omega)] at z; omega)) (fun z => dq_if (fun z2 => hj () (by rw [pu_le (by omega) (by omega)] at z2; omega)) (fun z2 => ?_))
  rw [pu_le (by omega) (by omega)] at z z2
  have em : (Int32.ofNat fst + Int32.ofNat i) - (Int32.ofNat fst + Int32.ofNat i) / Int32.ofNat mk * Int32.ofNat mk = Int32.ofNat ((fst + i) % mk) := by
    rw [pu_add, pu_rem (by omega) (by omega)]
  have hm8 : (fst + i) % mk < 8 := by have := Nat.mod_lt (fst + i) (show mk > 0 by omega); omega
  refine dq_ck (fun z => absurd ((pu_eq (b := 0) (by omega) (by omega)).mp z) (by omega)) (dq_lt ?_)
  rw [em]
  obtain ⟨k1, k2, k3, k4, k5⟩ := C4
  refine dq_ck k1 (dq_nn k2 (dq_ck ⟨by omega, by omega⟩ (dq_with k3 (by omega) hn (fun s2 Y5 hs2 F5 A5 e5 e5' => ?_))))
  have W45 : dq_wx bf r Y4 Y5 := dq_wx_fr dq_wx_refl F5 (fun _ _ _ z => absurd z id) (fun _ _ _ z => z)
  have hY4 : dw_n Y ≤ dw_n Y4 := dq_wx_n W4
  have hs2' : dw_n Y ≤ s2 := Nat.le_trans hY4 hs2
  have hq4 := k1.1
  have is5 : dw_is Y5 q 12 := dq_is_wx W45 k1
  refine dq_ck is5 (dq_lt ?_)
  have Fp : dq_fr dq_no (fun k _ => k = q) Y5 (dw_pr Y5 q 0 (some s2)) := dq_fr_pr dq_fr_refl (fun _ => rfl)
  have W6 : dq_wx bf r Y (dw_pr Y5 q 0 (some s2)) := dq_wx_fr (dq_wx_tr W4 W45) Fp (fun _ _ _ z => absurd z id) (fun k j hk (z : k = q) => by omega)
  have X6 := dq_TX_fr Fp (fun _ z => z) (dq_TX_fr F5 (fun _ z => z) X4)
  have C6 : dq_C1 (dw_pr Y5 q 0 (some s2)) q s2 (i + 1) (fun j => Int32.ofNat ((fst + j) % mk)) := by
    refine ⟨dq_is_fr Fp is5, dq_r_pr_s, dq_A1_fr Fp A5, fun j hj => ?_, ?_⟩
    · show dw_i Y5 s2 j = _
      by_cases e : j = i
      · subst e; exact e5'
      · rw [e5 j (by omega)]; exact k4 j (by omega)
    · show dw_i Y5 q 2 = 1
      rw [F5.2.2.2.1 q 2 hq4 (fun z => z)]; exact k5
  generalize dw_pr Y5 q 0 (some s2) = Y6 at W6 X6 C6 ⊢
  have hst := dq_stX_len (fst := fst) (mk := mk) hi2
  have hlen : (T ++ (dq_wd 22 ++ dq_stX fst mk i)).length ≤ T.length + 11 := by rw [List.length_append, List.length_append, l22]; omega
  have hY6 := dq_wx_n W6
  refine dq_jn (fun Y7 => dq_wr bf Y6 Y7 ∧ dq_TX bf w h nb nc a cn hist err ((T ++ (dq_wd 22 ++ dq_stX fst mk i)) ++ (if i = 0 then [] else dq_wd 23)) Y7) (fun Y7 h7 => ?_) (fun j hj => ?_)
  · obtain ⟨F7, X7⟩ := h7
    have W7 := dq_wx_wr W6 F7
    have hY7 := dq_wx_n W7
    have hl7 : ((T ++ (dq_wd 22 ++ dq_stX fst mk i)) ++ (if i = 0 then [] else dq_wd 23)).length < 500 := by
      rw [List.length_append]
      split
      · show _ + 0 < 500; omega
      · rw [l23]; omega
    refine dq_let1 hm8 (by omega) (by omega) X7 hl7 hn ⟨⟨by omega, by omega⟩, ⟨by omega, by omega⟩, ⟨by omega, by omega⟩, ⟨by omega, by omega⟩, ⟨by omega, by omega⟩, ⟨by omega, by omega⟩⟩ (fun Y8 F8 X8 => dq_lt (hK _ ⟨i + 1, s2, pu_add i 1, by omega, by omega, ?_, ?_, by omega, dq_wx_wr W7 F8, ?_, ?_⟩ ?_))
    · show 3 + 5 * i + 1 + 1 + 1 + 2 = _; omega
    · show 3 + 64 * i + 8 + 4 + 16 + 36 = _; omega
    · show dq_TX bf w h nb nc a cn hist err (T ++ (dq_wd 22 ++ (dq_stX fst mk i ++ ((if i = 0 then [] else dq_wd 23) ++ [97 + (fst + i) % mk])))) Y8
      rw [show T ++ (dq_wd 22 ++ (dq_stX fst mk i ++ ((if i = 0 then [] else dq_wd 23) ++ [97 + (fst + i) % mk]))) = T ++ (dq_wd 22 ++ dq_stX fst mk i) ++ (if i = 0 then [] else dq_wd 23) ++ [97 + (fst + i) % mk] by simp only [List.append_assoc]]
      exact X8
    · exact dq_C1_wx (dq_wr_wx (r := r) (dq_wr_tr F7 F8)) ⟨by omega, by omega⟩ ⟨by omega, by omega⟩ C6
    · show 3 - Int32.toNatClampNeg (Int32.ofNat i + (1 : Int32)) < 3 - Int32.toNatClampNeg (Int32.ofNat i)
      rw [show Int32.ofNat i + (1 : Int32) = Int32.ofNat (i + 1) from pu_add i 1, pu_n (by omega), pu_n (by omega)]
      omega
  · have e0 : (Int32.ofNat i ≤ 0) ↔ i ≤ 0 := pu_le (b := 0) (by omega) (by omega)
    refine dq_if (fun z => hj _ ⟨dq_wr_refl, ?_⟩) (fun z => dq_ck ⟨by omega, by omega⟩ (dq_write (by decide) X6 (by omega) hn (fun Y7 F7 X7 => hj _ ⟨F7, ?_⟩)))
    · rw [if_pos (show i = 0 by have := e0.mp z; omega), List.append_nil]; exact X6
    · rw [if_neg (show ¬ i = 0 by intro z2; exact z (e0.mpr (by omega)))]; exact X7
end DQT
